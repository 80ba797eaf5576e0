/-! the law's loop (written by lawloop.py): from a state in which Inv holds, every call of the class is answered as the reference answers -/
section LW
variable {G : am_G} {l : Launch} {t : am_T} {I : am_I} {L : am_J} {Q : bm_P}
theorem lw_ix {i : Nat} (hi : i + 6 ≤ 3072) (o : Nat) (c : Int32) (hc : c = nI o) (ho : o < 6) : (nI i + c).toInt = ((i + o : Nat) : Int) := by
  subst hc
  rw [nI_add]
  exact nI_toInt (by omega)
theorem lw_cmp (x : Int64) : (lg_cmp x x).toInt = 0 := by
  unfold lg_cmp
  simp
theorem lc_row {i : Nat} (hi : i + 6 ≤ G.2.2.1) (hG : G.2.2.1 ≤ 3072) (h : Inv t I L) (next : ∀ t I L, Inv t I L → bm_W G l 264 18 [some (.float 0), some (.ref 0), some (.ref 61), some (.int (nI i + 6))] [] t I L Q) : bm_W G l 264 240 [some (.float 0), some (.ref 0), some (.ref 61), some (.int (nI i))] [] t I L Q := by
  refine bm_go (am_ok_all 264 (by decide)) 200 ?_
  refine ⟨i + 1, lw_ix (by omega) 1 1 rfl (by decide), (by omega : i + 1 < G.2.2.1), ?_⟩
  refine ⟨i + 2, lw_ix (by omega) 2 2 rfl (by decide), (by omega : i + 2 < G.2.2.1), ?_⟩
  refine bm_C.mono (pair_row h) (fun v t I L hv => ?_)
  obtain ⟨x, rfl, hv⟩ := hv
  refine ⟨i + 1, lw_ix (by omega) 1 1 rfl (by decide), (by omega : i + 1 < G.2.2.1), ?_⟩
  refine ⟨i + 2, lw_ix (by omega) 2 2 rfl (by decide), (by omega : i + 2 < G.2.2.1), ?_⟩
  refine bm_C.mono hv (fun v t I L hv => ?_)
  obtain ⟨rfl, hv⟩ := hv
  exact And.intro (fun _ => next _ _ _ hv) (fun c => absurd rfl c)
theorem lc_lay {i : Nat} (hi : i + 6 ≤ G.2.2.1) (hG : G.2.2.1 ≤ 3072) (h : Inv t I L) (next : ∀ t I L, Inv t I L → bm_W G l 264 18 [some (.float 0), some (.ref 0), some (.ref 61), some (.int (nI i + 6))] [] t I L Q) : bm_W G l 264 273 [some (.float 0), some (.ref 0), some (.ref 61), some (.int (nI i))] [] t I L Q := by
  refine bm_go (am_ok_all 264 (by decide)) 200 ?_
  refine ⟨i + 1, lw_ix (by omega) 1 1 rfl (by decide), (by omega : i + 1 < G.2.2.1), ?_⟩
  refine ⟨i + 2, lw_ix (by omega) 2 2 rfl (by decide), (by omega : i + 2 < G.2.2.1), ?_⟩
  refine ⟨i + 3, lw_ix (by omega) 3 3 rfl (by decide), (by omega : i + 3 < G.2.2.1), ?_⟩
  refine bm_C.mono (pair_lay h) (fun v t I L hv => ?_)
  obtain ⟨x, rfl, hv⟩ := hv
  refine ⟨i + 1, lw_ix (by omega) 1 1 rfl (by decide), (by omega : i + 1 < G.2.2.1), ?_⟩
  refine ⟨i + 2, lw_ix (by omega) 2 2 rfl (by decide), (by omega : i + 2 < G.2.2.1), ?_⟩
  refine ⟨i + 3, lw_ix (by omega) 3 3 rfl (by decide), (by omega : i + 3 < G.2.2.1), ?_⟩
  refine bm_C.mono hv (fun v t I L hv => ?_)
  obtain ⟨rfl, hv⟩ := hv
  exact And.intro (fun _ => next _ _ _ hv) (fun c => absurd rfl c)
theorem lc_at {i : Nat} (hi : i + 6 ≤ G.2.2.1) (hG : G.2.2.1 ≤ 3072) (h : Inv t I L) (next : ∀ t I L, Inv t I L → bm_W G l 264 18 [some (.float 0), some (.ref 0), some (.ref 61), some (.int (nI i + 6))] [] t I L Q) : bm_W G l 264 316 [some (.float 0), some (.ref 0), some (.ref 61), some (.int (nI i))] [] t I L Q := by
  refine bm_go (am_ok_all 264 (by decide)) 200 ?_
  refine ⟨i + 1, lw_ix (by omega) 1 1 rfl (by decide), (by omega : i + 1 < G.2.2.1), ?_⟩
  refine ⟨i + 2, lw_ix (by omega) 2 2 rfl (by decide), (by omega : i + 2 < G.2.2.1), ?_⟩
  refine bm_C.mono (pair_at h) (fun v t I L hv => ?_)
  obtain ⟨x, rfl, hv⟩ := hv
  refine ⟨i + 1, lw_ix (by omega) 1 1 rfl (by decide), (by omega : i + 1 < G.2.2.1), ?_⟩
  refine ⟨i + 2, lw_ix (by omega) 2 2 rfl (by decide), (by omega : i + 2 < G.2.2.1), ?_⟩
  refine bm_C.mono hv (fun v t I L hv => ?_)
  obtain ⟨rfl, hv⟩ := hv
  exact And.intro (fun _ => next _ _ _ hv) (fun c => absurd rfl c)
theorem lc_tear {i : Nat} (hi : i + 6 ≤ G.2.2.1) (hG : G.2.2.1 ≤ 3072) (h : Inv t I L) (next : ∀ t I L, Inv t I L → bm_W G l 264 18 [some (.float 0), some (.ref 0), some (.ref 61), some (.int (nI i + 6))] [] t I L Q) : bm_W G l 264 349 [some (.float 0), some (.ref 0), some (.ref 61), some (.int (nI i))] [] t I L Q := by
  refine bm_go (am_ok_all 264 (by decide)) 200 ?_
  refine ⟨i + 1, lw_ix (by omega) 1 1 rfl (by decide), (by omega : i + 1 < G.2.2.1), ?_⟩
  refine bm_C.mono (pair_tear h) (fun v t I L hv => ?_)
  obtain ⟨x, rfl, hv⟩ := hv
  refine ⟨i + 1, lw_ix (by omega) 1 1 rfl (by decide), (by omega : i + 1 < G.2.2.1), ?_⟩
  refine bm_C.mono hv (fun v t I L hv => ?_)
  obtain ⟨rfl, hv⟩ := hv
  exact And.intro (fun _ => next _ _ _ hv) (fun c => absurd rfl c)
theorem lc_copy {i : Nat} (hi : i + 6 ≤ G.2.2.1) (hG : G.2.2.1 ≤ 3072) (h : Inv t I L) (next : ∀ t I L, Inv t I L → bm_W G l 264 18 [some (.float 0), some (.ref 0), some (.ref 61), some (.int (nI i + 6))] [] t I L Q) : bm_W G l 264 372 [some (.float 0), some (.ref 0), some (.ref 61), some (.int (nI i))] [] t I L Q := by
  refine bm_go (am_ok_all 264 (by decide)) 200 ?_
  refine ⟨i + 1, lw_ix (by omega) 1 1 rfl (by decide), (by omega : i + 1 < G.2.2.1), ?_⟩
  refine ⟨i + 2, lw_ix (by omega) 2 2 rfl (by decide), (by omega : i + 2 < G.2.2.1), ?_⟩
  refine ⟨i + 3, lw_ix (by omega) 3 3 rfl (by decide), (by omega : i + 3 < G.2.2.1), ?_⟩
  refine ⟨i + 4, lw_ix (by omega) 4 4 rfl (by decide), (by omega : i + 4 < G.2.2.1), ?_⟩
  refine ⟨i + 5, lw_ix (by omega) 5 5 rfl (by decide), (by omega : i + 5 < G.2.2.1), ?_⟩
  refine bm_C.mono (pair_copy h) (fun v t I L hv => ?_)
  obtain ⟨x, rfl, hv⟩ := hv
  refine ⟨i + 1, lw_ix (by omega) 1 1 rfl (by decide), (by omega : i + 1 < G.2.2.1), ?_⟩
  refine ⟨i + 2, lw_ix (by omega) 2 2 rfl (by decide), (by omega : i + 2 < G.2.2.1), ?_⟩
  refine ⟨i + 3, lw_ix (by omega) 3 3 rfl (by decide), (by omega : i + 3 < G.2.2.1), ?_⟩
  refine ⟨i + 4, lw_ix (by omega) 4 4 rfl (by decide), (by omega : i + 4 < G.2.2.1), ?_⟩
  refine ⟨i + 5, lw_ix (by omega) 5 5 rfl (by decide), (by omega : i + 5 < G.2.2.1), ?_⟩
  refine bm_C.mono hv (fun v t I L hv => ?_)
  obtain ⟨rfl, hv⟩ := hv
  exact And.intro (fun _ => next _ _ _ hv) (fun c => absurd rfl c)
theorem lc_mean {i : Nat} (hi : i + 6 ≤ G.2.2.1) (hG : G.2.2.1 ≤ 3072) (h : Inv t I L) (next : ∀ t I L, Inv t I L → bm_W G l 264 18 [some (.float 0), some (.ref 0), some (.ref 61), some (.int (nI i + 6))] [] t I L Q) : bm_W G l 264 435 [some (.float 0), some (.ref 0), some (.ref 61), some (.int (nI i))] [] t I L Q := by
  refine bm_go (am_ok_all 264 (by decide)) 200 ?_
  refine ⟨i + 1, lw_ix (by omega) 1 1 rfl (by decide), (by omega : i + 1 < G.2.2.1), ?_⟩
  refine bm_C.mono (pair_mean h) (fun v t I L hv => ?_)
  obtain ⟨x, rfl, hv⟩ := hv
  refine ⟨i + 1, lw_ix (by omega) 1 1 rfl (by decide), (by omega : i + 1 < G.2.2.1), ?_⟩
  refine bm_C.mono hv (fun v t I L hv => ?_)
  obtain ⟨rfl, hv⟩ := hv
  exact And.intro (fun _ => next _ _ _ hv) (fun c => absurd rfl c)
theorem lc_text {i : Nat} (hi : i + 6 ≤ G.2.2.1) (hG : G.2.2.1 ≤ 3072) (h : Inv t I L) (next : ∀ t I L, Inv t I L → bm_W G l 264 18 [some (.float 0), some (.ref 0), some (.ref 61), some (.int (nI i + 6))] [] t I L Q) : bm_W G l 264 458 [some (.float 0), some (.ref 0), some (.ref 61), some (.int (nI i))] [] t I L Q := by
  refine bm_go (am_ok_all 264 (by decide)) 200 ?_
  refine ⟨i + 1, lw_ix (by omega) 1 1 rfl (by decide), (by omega : i + 1 < G.2.2.1), ?_⟩
  refine ⟨i + 2, lw_ix (by omega) 2 2 rfl (by decide), (by omega : i + 2 < G.2.2.1), ?_⟩
  refine bm_C.mono (pair_text h) (fun v t I L hv => ?_)
  obtain ⟨x, rfl, hv⟩ := hv
  refine ⟨i + 1, lw_ix (by omega) 1 1 rfl (by decide), (by omega : i + 1 < G.2.2.1), ?_⟩
  refine ⟨i + 2, lw_ix (by omega) 2 2 rfl (by decide), (by omega : i + 2 < G.2.2.1), ?_⟩
  refine bm_C.mono hv (fun v t I L hv => ?_)
  obtain ⟨rfl, hv⟩ := hv
  exact And.intro (fun _ => next _ _ _ hv) (fun c => absurd rfl c)
theorem lc_put {i : Nat} (hi : i + 6 ≤ G.2.2.1) (hG : G.2.2.1 ≤ 3072) (h : Inv t I L) (next : ∀ t I L, Inv t I L → bm_W G l 264 18 [some (.float 0), some (.ref 0), some (.ref 61), some (.int (nI i + 6))] [] t I L Q) : bm_W G l 264 491 [some (.float 0), some (.ref 0), some (.ref 61), some (.int (nI i))] [] t I L Q := by
  refine bm_go (am_ok_all 264 (by decide)) 200 ?_
  refine ⟨i + 1, lw_ix (by omega) 1 1 rfl (by decide), (by omega : i + 1 < G.2.2.1), ?_⟩
  refine ⟨i + 2, lw_ix (by omega) 2 2 rfl (by decide), (by omega : i + 2 < G.2.2.1), ?_⟩
  refine ⟨i + 3, lw_ix (by omega) 3 3 rfl (by decide), (by omega : i + 3 < G.2.2.1), ?_⟩
  refine bm_C.mono (pair_put h) (fun v t I L hv => ?_)
  obtain ⟨x, rfl, hv⟩ := hv
  refine ⟨i + 1, lw_ix (by omega) 1 1 rfl (by decide), (by omega : i + 1 < G.2.2.1), ?_⟩
  refine ⟨i + 2, lw_ix (by omega) 2 2 rfl (by decide), (by omega : i + 2 < G.2.2.1), ?_⟩
  refine ⟨i + 3, lw_ix (by omega) 3 3 rfl (by decide), (by omega : i + 3 < G.2.2.1), ?_⟩
  refine bm_C.mono hv (fun v t I L hv => ?_)
  obtain ⟨rfl, hv⟩ := hv
  exact And.intro (fun _ => next _ _ _ hv) (fun c => absurd rfl c)
theorem lc_fault {i : Nat} (hi : i + 6 ≤ G.2.2.1) (hG : G.2.2.1 ≤ 3072) (h : Inv t I L) (next : ∀ t I L, Inv t I L → bm_W G l 264 18 [some (.float 0), some (.ref 0), some (.ref 61), some (.int (nI i + 6))] [] t I L Q) : bm_W G l 264 534 [some (.float 0), some (.ref 0), some (.ref 61), some (.int (nI i))] [] t I L Q := by
  refine bm_go (am_ok_all 264 (by decide)) 200 ?_
  refine ⟨i + 1, lw_ix (by omega) 1 1 rfl (by decide), (by omega : i + 1 < G.2.2.1), ?_⟩
  refine bm_C.mono (pair_fault h) (fun v t I L hv => ?_)
  obtain ⟨x, rfl, hv⟩ := hv
  refine ⟨i + 1, lw_ix (by omega) 1 1 rfl (by decide), (by omega : i + 1 < G.2.2.1), ?_⟩
  refine bm_C.mono hv (fun v t I L hv => ?_)
  obtain ⟨rfl, hv⟩ := hv
  exact And.intro (fun _ => next _ _ _ hv) (fun c => absurd rfl c)
theorem lc_town {i : Nat} (hi : i + 6 ≤ G.2.2.1) (hG : G.2.2.1 ≤ 3072) (h : Inv t I L) (next : ∀ t I L, Inv t I L → bm_W G l 264 18 [some (.float 0), some (.ref 0), some (.ref 61), some (.int (nI i + 6))] [] t I L Q) : bm_W G l 264 557 [some (.float 0), some (.ref 0), some (.ref 61), some (.int (nI i))] [] t I L Q := by
  refine bm_go (am_ok_all 264 (by decide)) 200 ?_
  refine ⟨i + 1, lw_ix (by omega) 1 1 rfl (by decide), (by omega : i + 1 < G.2.2.1), ?_⟩
  refine bm_C.mono (pair_town h) (fun v t I L hv => ?_)
  obtain ⟨x, rfl, hv⟩ := hv
  refine ⟨i + 1, lw_ix (by omega) 1 1 rfl (by decide), (by omega : i + 1 < G.2.2.1), ?_⟩
  refine bm_C.mono hv (fun v t I L hv => ?_)
  obtain ⟨rfl, hv⟩ := hv
  exact And.intro (fun _ => next _ _ _ hv) (fun c => absurd rfl c)
theorem lc_cell {i : Nat} (hi : i + 6 ≤ G.2.2.1) (hG : G.2.2.1 ≤ 3072) (h : Inv t I L) (next : ∀ t I L, Inv t I L → bm_W G l 264 18 [some (.float 0), some (.ref 0), some (.ref 61), some (.int (nI i + 6))] [] t I L Q) : bm_W G l 264 580 [some (.float 0), some (.ref 0), some (.ref 61), some (.int (nI i))] [] t I L Q := by
  refine bm_go (am_ok_all 264 (by decide)) 200 ?_
  refine ⟨i + 1, lw_ix (by omega) 1 1 rfl (by decide), (by omega : i + 1 < G.2.2.1), ?_⟩
  refine bm_C.mono (pair_cell h) (fun v t I L hv => ?_)
  obtain ⟨x, rfl, hv⟩ := hv
  refine ⟨i + 1, lw_ix (by omega) 1 1 rfl (by decide), (by omega : i + 1 < G.2.2.1), ?_⟩
  refine bm_C.mono hv (fun v t I L hv => ?_)
  obtain ⟨rfl, hv⟩ := hv
  exact And.intro (fun _ => next _ _ _ hv) (fun c => absurd rfl c)
theorem lc_lamp {i : Nat} (hi : i + 6 ≤ G.2.2.1) (hG : G.2.2.1 ≤ 3072) (h : Inv t I L) (next : ∀ t I L, Inv t I L → bm_W G l 264 18 [some (.float 0), some (.ref 0), some (.ref 61), some (.int (nI i + 6))] [] t I L Q) : bm_W G l 264 603 [some (.float 0), some (.ref 0), some (.ref 61), some (.int (nI i))] [] t I L Q := by
  refine bm_go (am_ok_all 264 (by decide)) 200 ?_
  refine ⟨i + 1, lw_ix (by omega) 1 1 rfl (by decide), (by omega : i + 1 < G.2.2.1), ?_⟩
  refine ⟨i + 2, lw_ix (by omega) 2 2 rfl (by decide), (by omega : i + 2 < G.2.2.1), ?_⟩
  refine bm_C.mono (pair_lamp h) (fun v t I L hv => ?_)
  obtain ⟨x, rfl, hv⟩ := hv
  refine ⟨i + 1, lw_ix (by omega) 1 1 rfl (by decide), (by omega : i + 1 < G.2.2.1), ?_⟩
  refine ⟨i + 2, lw_ix (by omega) 2 2 rfl (by decide), (by omega : i + 2 < G.2.2.1), ?_⟩
  refine bm_C.mono hv (fun v t I L hv => ?_)
  obtain ⟨rfl, hv⟩ := hv
  exact And.intro (fun _ => next _ _ _ hv) (fun c => absurd rfl c)
theorem lc_mark {i : Nat} (hi : i + 6 ≤ G.2.2.1) (hG : G.2.2.1 ≤ 3072) (h : Inv t I L) (next : ∀ t I L, Inv t I L → bm_W G l 264 18 [some (.float 0), some (.ref 0), some (.ref 61), some (.int (nI i + 6))] [] t I L Q) : bm_W G l 264 636 [some (.float 0), some (.ref 0), some (.ref 61), some (.int (nI i))] [] t I L Q := by
  refine bm_go (am_ok_all 264 (by decide)) 200 ?_
  refine ⟨i + 1, lw_ix (by omega) 1 1 rfl (by decide), (by omega : i + 1 < G.2.2.1), ?_⟩
  refine ⟨i + 2, lw_ix (by omega) 2 2 rfl (by decide), (by omega : i + 2 < G.2.2.1), ?_⟩
  refine bm_C.mono (pair_mark h) (fun v t I L hv => ?_)
  obtain ⟨x, rfl, hv⟩ := hv
  refine ⟨i + 1, lw_ix (by omega) 1 1 rfl (by decide), (by omega : i + 1 < G.2.2.1), ?_⟩
  refine ⟨i + 2, lw_ix (by omega) 2 2 rfl (by decide), (by omega : i + 2 < G.2.2.1), ?_⟩
  refine bm_C.mono hv (fun v t I L hv => ?_)
  obtain ⟨rfl, hv⟩ := hv
  exact And.intro (fun _ => next _ _ _ hv) (fun c => absurd rfl c)
theorem lc_shines {i : Nat} (hi : i + 6 ≤ G.2.2.1) (hG : G.2.2.1 ≤ 3072) (h : Inv t I L) (next : ∀ t I L, Inv t I L → bm_W G l 264 18 [some (.float 0), some (.ref 0), some (.ref 61), some (.int (nI i + 6))] [] t I L Q) : bm_W G l 264 669 [some (.float 0), some (.ref 0), some (.ref 61), some (.int (nI i))] [] t I L Q := by
  refine bm_go (am_ok_all 264 (by decide)) 200 ?_
  refine ⟨i + 1, lw_ix (by omega) 1 1 rfl (by decide), (by omega : i + 1 < G.2.2.1), ?_⟩
  refine bm_C.mono (pair_shines h) (fun v t I L hv => ?_)
  obtain ⟨x, rfl, hv⟩ := hv
  refine ⟨i + 1, lw_ix (by omega) 1 1 rfl (by decide), (by omega : i + 1 < G.2.2.1), ?_⟩
  refine bm_C.mono hv (fun v t I L hv => ?_)
  obtain ⟨rfl, hv⟩ := hv
  exact And.intro (fun _ => next _ _ _ hv) (fun c => absurd rfl c)
theorem lc_light {i : Nat} (hi : i + 6 ≤ G.2.2.1) (hG : G.2.2.1 ≤ 3072) (h : Inv t I L) (next : ∀ t I L, Inv t I L → bm_W G l 264 18 [some (.float 0), some (.ref 0), some (.ref 61), some (.int (nI i + 6))] [] t I L Q) : bm_W G l 264 692 [some (.float 0), some (.ref 0), some (.ref 61), some (.int (nI i))] [] t I L Q := by
  refine bm_go (am_ok_all 264 (by decide)) 200 ?_
  refine ⟨i + 1, lw_ix (by omega) 1 1 rfl (by decide), (by omega : i + 1 < G.2.2.1), ?_⟩
  refine bm_C.mono (pair_light h) (fun v t I L hv => ?_)
  obtain ⟨x, rfl, hv⟩ := hv
  refine ⟨i + 1, lw_ix (by omega) 1 1 rfl (by decide), (by omega : i + 1 < G.2.2.1), ?_⟩
  refine bm_C.mono hv (fun v t I L hv => ?_)
  obtain ⟨rfl, hv⟩ := hv
  exact And.intro (fun _ => next _ _ _ hv) (fun c => absurd rfl c)
theorem lc_shade {i : Nat} (hi : i + 6 ≤ G.2.2.1) (hG : G.2.2.1 ≤ 3072) (h : Inv t I L) (next : ∀ t I L, Inv t I L → bm_W G l 264 18 [some (.float 0), some (.ref 0), some (.ref 61), some (.int (nI i + 6))] [] t I L Q) : bm_W G l 264 715 [some (.float 0), some (.ref 0), some (.ref 61), some (.int (nI i))] [] t I L Q := by
  refine bm_go (am_ok_all 264 (by decide)) 200 ?_
  refine ⟨i + 1, lw_ix (by omega) 1 1 rfl (by decide), (by omega : i + 1 < G.2.2.1), ?_⟩
  refine ⟨i + 2, lw_ix (by omega) 2 2 rfl (by decide), (by omega : i + 2 < G.2.2.1), ?_⟩
  refine bm_C.mono (pair_shade h) (fun v t I L hv => ?_)
  obtain ⟨x, rfl, hv⟩ := hv
  refine ⟨i + 1, lw_ix (by omega) 1 1 rfl (by decide), (by omega : i + 1 < G.2.2.1), ?_⟩
  refine ⟨i + 2, lw_ix (by omega) 2 2 rfl (by decide), (by omega : i + 2 < G.2.2.1), ?_⟩
  refine bm_C.mono hv (fun v t I L hv => ?_)
  obtain ⟨rfl, hv⟩ := hv
  exact And.intro (fun _ => next _ _ _ hv) (fun c => absurd rfl c)
theorem lc_begin {i : Nat} (hi : i + 6 ≤ G.2.2.1) (hG : G.2.2.1 ≤ 3072) (h : Inv t I L) (next : ∀ t I L, Inv t I L → bm_W G l 264 18 [some (.float 0), some (.ref 0), some (.ref 61), some (.int (nI i + 6))] [] t I L Q) : bm_W G l 264 748 [some (.float 0), some (.ref 0), some (.ref 61), some (.int (nI i))] [] t I L Q := by
  refine bm_go (am_ok_all 264 (by decide)) 200 ?_
  refine bm_C.mono (pair_begin h) (fun v t I L hv => ?_)
  obtain ⟨x, rfl, hv⟩ := hv
  refine bm_C.mono hv (fun v t I L hv => ?_)
  obtain ⟨rfl, hv⟩ := hv
  exact And.intro (fun _ => next _ _ _ hv) (fun c => absurd rfl c)
theorem lc_may {i : Nat} (hi : i + 6 ≤ G.2.2.1) (hG : G.2.2.1 ≤ 3072) (h : Inv t I L) (next : ∀ t I L, Inv t I L → bm_W G l 264 18 [some (.float 0), some (.ref 0), some (.ref 61), some (.int (nI i + 6))] [] t I L Q) : bm_W G l 264 761 [some (.float 0), some (.ref 0), some (.ref 61), some (.int (nI i))] [] t I L Q := by
  refine bm_go (am_ok_all 264 (by decide)) 200 ?_
  refine bm_C.mono (pair_may h) (fun v t I L hv => ?_)
  obtain ⟨x, rfl, hv⟩ := hv
  refine bm_C.mono hv (fun v t I L hv => ?_)
  obtain ⟨rfl, hv⟩ := hv
  exact And.intro (fun _ => next _ _ _ hv) (fun c => absurd rfl c)
theorem lc_act {i : Nat} (hi : i + 6 ≤ G.2.2.1) (hG : G.2.2.1 ≤ 3072) (h : Inv t I L) (next : ∀ t I L, Inv t I L → bm_W G l 264 18 [some (.float 0), some (.ref 0), some (.ref 61), some (.int (nI i + 6))] [] t I L Q) : bm_W G l 264 774 [some (.float 0), some (.ref 0), some (.ref 61), some (.int (nI i))] [] t I L Q := by
  refine bm_go (am_ok_all 264 (by decide)) 200 ?_
  refine ⟨i + 1, lw_ix (by omega) 1 1 rfl (by decide), (by omega : i + 1 < G.2.2.1), ?_⟩
  refine bm_C.mono (pair_act h) (fun v t I L hv => ?_)
  obtain ⟨x, rfl, hv⟩ := hv
  refine ⟨i + 1, lw_ix (by omega) 1 1 rfl (by decide), (by omega : i + 1 < G.2.2.1), ?_⟩
  refine bm_C.mono hv (fun v t I L hv => ?_)
  obtain ⟨rfl, hv⟩ := hv
  exact And.intro (fun _ => next _ _ _ hv) (fun c => absurd rfl c)
theorem lc_where {i : Nat} (hi : i + 6 ≤ G.2.2.1) (hG : G.2.2.1 ≤ 3072) (h : Inv t I L) (next : ∀ t I L, Inv t I L → bm_W G l 264 18 [some (.float 0), some (.ref 0), some (.ref 61), some (.int (nI i + 6))] [] t I L Q) : bm_W G l 264 797 [some (.float 0), some (.ref 0), some (.ref 61), some (.int (nI i))] [] t I L Q := by
  refine bm_go (am_ok_all 264 (by decide)) 200 ?_
  refine bm_C.mono (pair_where h) (fun v t I L hv => ?_)
  obtain ⟨x, rfl, hv⟩ := hv
  refine bm_C.mono hv (fun v t I L hv => ?_)
  obtain ⟨rfl, hv⟩ := hv
  exact And.intro (fun _ => next _ _ _ hv) (fun c => absurd rfl c)
theorem lc_lit {i : Nat} (hi : i + 6 ≤ G.2.2.1) (hG : G.2.2.1 ≤ 3072) (h : Inv t I L) (next : ∀ t I L, Inv t I L → bm_W G l 264 18 [some (.float 0), some (.ref 0), some (.ref 61), some (.int (nI i + 6))] [] t I L Q) : bm_W G l 264 810 [some (.float 0), some (.ref 0), some (.ref 61), some (.int (nI i))] [] t I L Q := by
  refine bm_go (am_ok_all 264 (by decide)) 200 ?_
  refine bm_C.mono (pair_lit h) (fun v t I L hv => ?_)
  obtain ⟨x, rfl, hv⟩ := hv
  refine bm_C.mono hv (fun v t I L hv => ?_)
  obtain ⟨rfl, hv⟩ := hv
  exact And.intro (fun _ => next _ _ _ hv) (fun c => absurd rfl c)
theorem lc_undo {i : Nat} (hi : i + 6 ≤ G.2.2.1) (hG : G.2.2.1 ≤ 3072) (h : Inv t I L) (next : ∀ t I L, Inv t I L → bm_W G l 264 18 [some (.float 0), some (.ref 0), some (.ref 61), some (.int (nI i + 6))] [] t I L Q) : bm_W G l 264 823 [some (.float 0), some (.ref 0), some (.ref 61), some (.int (nI i))] [] t I L Q := by
  refine bm_go (am_ok_all 264 (by decide)) 200 ?_
  refine ⟨i + 1, lw_ix (by omega) 1 1 rfl (by decide), (by omega : i + 1 < G.2.2.1), ?_⟩
  refine bm_C.mono (pair_undo h) (fun v t I L hv => ?_)
  obtain ⟨x, rfl, hv⟩ := hv
  refine ⟨i + 1, lw_ix (by omega) 1 1 rfl (by decide), (by omega : i + 1 < G.2.2.1), ?_⟩
  refine bm_C.mono hv (fun v t I L hv => ?_)
  obtain ⟨rfl, hv⟩ := hv
  exact And.intro (fun _ => next _ _ _ hv) (fun c => absurd rfl c)
theorem lc_judge {i : Nat} (hi : i + 6 ≤ G.2.2.1) (hG : G.2.2.1 ≤ 3072) (h : Inv t I L) (next : ∀ t I L, Inv t I L → bm_W G l 264 18 [some (.float 0), some (.ref 0), some (.ref 61), some (.int (nI i + 6))] [] t I L Q) : bm_W G l 264 846 [some (.float 0), some (.ref 0), some (.ref 61), some (.int (nI i))] [] t I L Q := by
  refine bm_go (am_ok_all 264 (by decide)) 200 ?_
  refine ⟨i + 1, lw_ix (by omega) 1 1 rfl (by decide), (by omega : i + 1 < G.2.2.1), ?_⟩
  refine bm_C.mono (pair_judge h) (fun v t I L hv => ?_)
  obtain ⟨x, rfl, hv⟩ := hv
  refine ⟨i + 1, lw_ix (by omega) 1 1 rfl (by decide), (by omega : i + 1 < G.2.2.1), ?_⟩
  refine bm_C.mono hv (fun v t I L hv => ?_)
  obtain ⟨rfl, hv⟩ := hv
  exact And.intro (fun _ => next _ _ _ hv) (fun c => absurd rfl c)
theorem lc_keep {i : Nat} (hi : i + 6 ≤ G.2.2.1) (hG : G.2.2.1 ≤ 3072) (h : Inv t I L) (next : ∀ t I L, Inv t I L → bm_W G l 264 18 [some (.float 0), some (.ref 0), some (.ref 61), some (.int (nI i + 6))] [] t I L Q) : bm_W G l 264 869 [some (.float 0), some (.ref 0), some (.ref 61), some (.int (nI i))] [] t I L Q := by
  refine bm_go (am_ok_all 264 (by decide)) 200 ?_
  refine ⟨i + 1, lw_ix (by omega) 1 1 rfl (by decide), (by omega : i + 1 < G.2.2.1), ?_⟩
  refine bm_C.mono (pair_keep h) (fun v t I L hv => ?_)
  obtain ⟨x, rfl, hv⟩ := hv
  refine ⟨i + 1, lw_ix (by omega) 1 1 rfl (by decide), (by omega : i + 1 < G.2.2.1), ?_⟩
  refine bm_C.mono hv (fun v t I L hv => ?_)
  obtain ⟨rfl, hv⟩ := hv
  exact And.intro (fun _ => next _ _ _ hv) (fun c => absurd rfl c)
theorem lc_on {i : Nat} (hi : i + 6 ≤ G.2.2.1) (hG : G.2.2.1 ≤ 3072) (h : Inv t I L) (next : ∀ t I L, Inv t I L → bm_W G l 264 18 [some (.float 0), some (.ref 0), some (.ref 61), some (.int (nI i + 6))] [] t I L Q) : bm_W G l 264 892 [some (.float 0), some (.ref 0), some (.ref 61), some (.int (nI i))] [] t I L Q := by
  refine bm_go (am_ok_all 264 (by decide)) 200 ?_
  refine ⟨i + 1, lw_ix (by omega) 1 1 rfl (by decide), (by omega : i + 1 < G.2.2.1), ?_⟩
  refine bm_C.mono (pair_on h) (fun v t I L hv => ?_)
  obtain ⟨x, rfl, hv⟩ := hv
  refine ⟨i + 1, lw_ix (by omega) 1 1 rfl (by decide), (by omega : i + 1 < G.2.2.1), ?_⟩
  refine bm_C.mono hv (fun v t I L hv => ?_)
  obtain ⟨rfl, hv⟩ := hv
  exact And.intro (fun _ => next _ _ _ hv) (fun c => absurd rfl c)
theorem lc_shortest {i : Nat} (hi : i + 6 ≤ G.2.2.1) (hG : G.2.2.1 ≤ 3072) (h : Inv t I L) (next : ∀ t I L, Inv t I L → bm_W G l 264 18 [some (.float 0), some (.ref 0), some (.ref 61), some (.int (nI i + 6))] [] t I L Q) : bm_W G l 264 915 [some (.float 0), some (.ref 0), some (.ref 61), some (.int (nI i))] [] t I L Q := by
  refine bm_go (am_ok_all 264 (by decide)) 200 ?_
  refine ⟨i + 1, lw_ix (by omega) 1 1 rfl (by decide), (by omega : i + 1 < G.2.2.1), ?_⟩
  refine bm_C.mono (pair_shortest h) (fun v t I L hv => ?_)
  obtain ⟨x, rfl, hv⟩ := hv
  refine ⟨i + 1, lw_ix (by omega) 1 1 rfl (by decide), (by omega : i + 1 < G.2.2.1), ?_⟩
  refine bm_C.mono hv (fun v t I L hv => ?_)
  obtain ⟨rfl, hv⟩ := hv
  exact And.intro (fun _ => next _ _ _ hv) (fun c => absurd rfl c)
theorem lc_orders {i : Nat} (hi : i + 6 ≤ G.2.2.1) (hG : G.2.2.1 ≤ 3072) (h : Inv t I L) (next : ∀ t I L, Inv t I L → bm_W G l 264 18 [some (.float 0), some (.ref 0), some (.ref 61), some (.int (nI i + 6))] [] t I L Q) : bm_W G l 264 938 [some (.float 0), some (.ref 0), some (.ref 61), some (.int (nI i))] [] t I L Q := by
  refine bm_go (am_ok_all 264 (by decide)) 200 ?_
  refine bm_C.mono (pair_orders h) (fun v t I L hv => ?_)
  obtain ⟨x, rfl, hv⟩ := hv
  refine bm_C.mono hv (fun v t I L hv => ?_)
  obtain ⟨rfl, hv⟩ := hv
  exact And.intro (fun _ => next _ _ _ hv) (fun c => absurd rfl c)
theorem lc_first {i : Nat} (hi : i + 6 ≤ G.2.2.1) (hG : G.2.2.1 ≤ 3072) (h : Inv t I L) (next : ∀ t I L, Inv t I L → bm_W G l 264 18 [some (.float 0), some (.ref 0), some (.ref 61), some (.int (nI i + 6))] [] t I L Q) : bm_W G l 264 951 [some (.float 0), some (.ref 0), some (.ref 61), some (.int (nI i))] [] t I L Q := by
  refine bm_go (am_ok_all 264 (by decide)) 200 ?_
  refine bm_C.mono (pair_first h) (fun v t I L hv => ?_)
  obtain ⟨x, rfl, hv⟩ := hv
  refine bm_C.mono hv (fun v t I L hv => ?_)
  obtain ⟨rfl, hv⟩ := hv
  exact And.intro (fun _ => next _ _ _ hv) (fun c => absurd rfl c)
theorem lc_bars {i : Nat} (hi : i + 6 ≤ G.2.2.1) (hG : G.2.2.1 ≤ 3072) (h : Inv t I L) (next : ∀ t I L, Inv t I L → bm_W G l 264 18 [some (.float 0), some (.ref 0), some (.ref 61), some (.int (nI i + 6))] [] t I L Q) : bm_W G l 264 964 [some (.float 0), some (.ref 0), some (.ref 61), some (.int (nI i))] [] t I L Q := by
  refine bm_go (am_ok_all 264 (by decide)) 200 ?_
  refine ⟨i + 1, lw_ix (by omega) 1 1 rfl (by decide), (by omega : i + 1 < G.2.2.1), ?_⟩
  refine bm_C.mono (pair_bars h) (fun v t I L hv => ?_)
  obtain ⟨x, rfl, hv⟩ := hv
  refine ⟨i + 1, lw_ix (by omega) 1 1 rfl (by decide), (by omega : i + 1 < G.2.2.1), ?_⟩
  refine bm_C.mono hv (fun v t I L hv => ?_)
  obtain ⟨rfl, hv⟩ := hv
  exact And.intro (fun _ => next _ _ _ hv) (fun c => absurd rfl c)
theorem lc_rings {i : Nat} (hi : i + 6 ≤ G.2.2.1) (hG : G.2.2.1 ≤ 3072) (h : Inv t I L) (next : ∀ t I L, Inv t I L → bm_W G l 264 18 [some (.float 0), some (.ref 0), some (.ref 61), some (.int (nI i + 6))] [] t I L Q) : bm_W G l 264 987 [some (.float 0), some (.ref 0), some (.ref 61), some (.int (nI i))] [] t I L Q := by
  refine bm_go (am_ok_all 264 (by decide)) 200 ?_
  refine bm_C.mono (pair_rings h) (fun v t I L hv => ?_)
  obtain ⟨x, rfl, hv⟩ := hv
  refine bm_C.mono hv (fun v t I L hv => ?_)
  obtain ⟨rfl, hv⟩ := hv
  exact And.intro (fun _ => next _ _ _ hv) (fun c => absurd rfl c)
theorem lc_dark {i : Nat} (hi : i + 6 ≤ G.2.2.1) (hG : G.2.2.1 ≤ 3072) (h : Inv t I L) (next : ∀ t I L, Inv t I L → bm_W G l 264 18 [some (.float 0), some (.ref 0), some (.ref 61), some (.int (nI i + 6))] [] t I L Q) : bm_W G l 264 1000 [some (.float 0), some (.ref 0), some (.ref 61), some (.int (nI i))] [] t I L Q := by
  refine bm_go (am_ok_all 264 (by decide)) 200 ?_
  refine bm_C.mono (pair_dark h) (fun v t I L hv => ?_)
  obtain ⟨x, rfl, hv⟩ := hv
  refine bm_C.mono hv (fun v t I L hv => ?_)
  obtain ⟨rfl, hv⟩ := hv
  exact And.intro (fun _ => next _ _ _ hv) (fun c => absurd rfl c)
theorem lc_bright {i : Nat} (hi : i + 6 ≤ G.2.2.1) (hG : G.2.2.1 ≤ 3072) (h : Inv t I L) (next : ∀ t I L, Inv t I L → bm_W G l 264 18 [some (.float 0), some (.ref 0), some (.ref 61), some (.int (nI i + 6))] [] t I L Q) : bm_W G l 264 1013 [some (.float 0), some (.ref 0), some (.ref 61), some (.int (nI i))] [] t I L Q := by
  refine bm_go (am_ok_all 264 (by decide)) 200 ?_
  refine bm_C.mono (pair_bright h) (fun v t I L hv => ?_)
  obtain ⟨x, rfl, hv⟩ := hv
  refine bm_C.mono hv (fun v t I L hv => ?_)
  obtain ⟨rfl, hv⟩ := hv
  exact And.intro (fun _ => next _ _ _ hv) (fun c => absurd rfl c)
theorem lc_shades {i : Nat} (hi : i + 6 ≤ G.2.2.1) (hG : G.2.2.1 ≤ 3072) (h : Inv t I L) (next : ∀ t I L, Inv t I L → bm_W G l 264 18 [some (.float 0), some (.ref 0), some (.ref 61), some (.int (nI i + 6))] [] t I L Q) : bm_W G l 264 1026 [some (.float 0), some (.ref 0), some (.ref 61), some (.int (nI i))] [] t I L Q := by
  refine bm_go (am_ok_all 264 (by decide)) 200 ?_
  refine bm_C.mono (pair_shades h) (fun v t I L hv => ?_)
  obtain ⟨x, rfl, hv⟩ := hv
  refine bm_C.mono hv (fun v t I L hv => ?_)
  obtain ⟨rfl, hv⟩ := hv
  exact And.intro (fun _ => next _ _ _ hv) (fun c => absurd rfl c)
theorem lc_two {i : Nat} (hi : i + 6 ≤ G.2.2.1) (hG : G.2.2.1 ≤ 3072) (h : Inv t I L) (next : ∀ t I L, Inv t I L → bm_W G l 264 18 [some (.float 0), some (.ref 0), some (.ref 61), some (.int (nI i + 6))] [] t I L Q) : bm_W G l 264 1039 [some (.float 0), some (.ref 0), some (.ref 61), some (.int (nI i))] [] t I L Q := by
  refine bm_go (am_ok_all 264 (by decide)) 200 ?_
  refine ⟨i + 1, lw_ix (by omega) 1 1 rfl (by decide), (by omega : i + 1 < G.2.2.1), ?_⟩
  refine bm_C.mono (pair_two h) (fun v t I L hv => ?_)
  obtain ⟨x, rfl, hv⟩ := hv
  refine ⟨i + 1, lw_ix (by omega) 1 1 rfl (by decide), (by omega : i + 1 < G.2.2.1), ?_⟩
  refine bm_C.mono hv (fun v t I L hv => ?_)
  obtain ⟨rfl, hv⟩ := hv
  exact And.intro (fun _ => next _ _ _ hv) (fun c => absurd rfl c)
theorem lc_thief {i : Nat} (hi : i + 6 ≤ G.2.2.1) (hG : G.2.2.1 ≤ 3072) (h : Inv t I L) (next : ∀ t I L, Inv t I L → bm_W G l 264 18 [some (.float 0), some (.ref 0), some (.ref 61), some (.int (nI i + 6))] [] t I L Q) : bm_W G l 264 1062 [some (.float 0), some (.ref 0), some (.ref 61), some (.int (nI i))] [] t I L Q := by
  refine bm_go (am_ok_all 264 (by decide)) 200 ?_
  refine ⟨i + 1, lw_ix (by omega) 1 1 rfl (by decide), (by omega : i + 1 < G.2.2.1), ?_⟩
  refine ⟨i + 2, lw_ix (by omega) 2 2 rfl (by decide), (by omega : i + 2 < G.2.2.1), ?_⟩
  refine bm_C.mono (pair_thief h) (fun v t I L hv => ?_)
  obtain ⟨x, rfl, hv⟩ := hv
  refine ⟨i + 1, lw_ix (by omega) 1 1 rfl (by decide), (by omega : i + 1 < G.2.2.1), ?_⟩
  refine ⟨i + 2, lw_ix (by omega) 2 2 rfl (by decide), (by omega : i + 2 < G.2.2.1), ?_⟩
  refine bm_C.mono hv (fun v t I L hv => ?_)
  obtain ⟨rfl, hv⟩ := hv
  exact And.intro (fun _ => next _ _ _ hv) (fun c => absurd rfl c)
theorem lc_saw {i : Nat} (hi : i + 6 ≤ G.2.2.1) (hG : G.2.2.1 ≤ 3072) (h : Inv t I L) (next : ∀ t I L, Inv t I L → bm_W G l 264 18 [some (.float 0), some (.ref 0), some (.ref 61), some (.int (nI i + 6))] [] t I L Q) : bm_W G l 264 1095 [some (.float 0), some (.ref 0), some (.ref 61), some (.int (nI i))] [] t I L Q := by
  refine bm_go (am_ok_all 264 (by decide)) 200 ?_
  refine ⟨i + 1, lw_ix (by omega) 1 1 rfl (by decide), (by omega : i + 1 < G.2.2.1), ?_⟩
  refine ⟨i + 2, lw_ix (by omega) 2 2 rfl (by decide), (by omega : i + 2 < G.2.2.1), ?_⟩
  refine bm_C.mono (pair_saw h) (fun v t I L hv => ?_)
  obtain ⟨x, rfl, hv⟩ := hv
  refine ⟨i + 1, lw_ix (by omega) 1 1 rfl (by decide), (by omega : i + 1 < G.2.2.1), ?_⟩
  refine ⟨i + 2, lw_ix (by omega) 2 2 rfl (by decide), (by omega : i + 2 < G.2.2.1), ?_⟩
  refine bm_C.mono hv (fun v t I L hv => ?_)
  obtain ⟨rfl, hv⟩ := hv
  exact And.intro (fun _ => next _ _ _ hv) (fun c => absurd rfl c)
theorem lc_forget {i : Nat} (hi : i + 6 ≤ G.2.2.1) (hG : G.2.2.1 ≤ 3072) (h : Inv t I L) (next : ∀ t I L, Inv t I L → bm_W G l 264 18 [some (.float 0), some (.ref 0), some (.ref 61), some (.int (nI i + 6))] [] t I L Q) : bm_W G l 264 1128 [some (.float 0), some (.ref 0), some (.ref 61), some (.int (nI i))] [] t I L Q := by
  refine bm_go (am_ok_all 264 (by decide)) 200 ?_
  refine ⟨i + 1, lw_ix (by omega) 1 1 rfl (by decide), (by omega : i + 1 < G.2.2.1), ?_⟩
  refine bm_C.mono (pair_forget h) (fun v t I L hv => ?_)
  obtain ⟨x, rfl, hv⟩ := hv
  refine ⟨i + 1, lw_ix (by omega) 1 1 rfl (by decide), (by omega : i + 1 < G.2.2.1), ?_⟩
  refine bm_C.mono hv (fun v t I L hv => ?_)
  obtain ⟨rfl, hv⟩ := hv
  exact And.intro (fun _ => next _ _ _ hv) (fun c => absurd rfl c)
theorem lc_fits {i : Nat} (hi : i + 6 ≤ G.2.2.1) (hG : G.2.2.1 ≤ 3072) (h : Inv t I L) (next : ∀ t I L, Inv t I L → bm_W G l 264 18 [some (.float 0), some (.ref 0), some (.ref 61), some (.int (nI i + 6))] [] t I L Q) : bm_W G l 264 1151 [some (.float 0), some (.ref 0), some (.ref 61), some (.int (nI i))] [] t I L Q := by
  refine bm_go (am_ok_all 264 (by decide)) 200 ?_
  refine bm_C.mono (pair_fits h) (fun v t I L hv => ?_)
  obtain ⟨x, rfl, hv⟩ := hv
  refine bm_C.mono hv (fun v t I L hv => ?_)
  obtain ⟨rfl, hv⟩ := hv
  exact And.intro (fun _ => next _ _ _ hv) (fun c => absurd rfl c)
theorem lc_sure {i : Nat} (hi : i + 6 ≤ G.2.2.1) (hG : G.2.2.1 ≤ 3072) (h : Inv t I L) (next : ∀ t I L, Inv t I L → bm_W G l 264 18 [some (.float 0), some (.ref 0), some (.ref 61), some (.int (nI i + 6))] [] t I L Q) : bm_W G l 264 1164 [some (.float 0), some (.ref 0), some (.ref 61), some (.int (nI i))] [] t I L Q := by
  refine bm_go (am_ok_all 264 (by decide)) 200 ?_
  refine ⟨i + 1, lw_ix (by omega) 1 1 rfl (by decide), (by omega : i + 1 < G.2.2.1), ?_⟩
  refine ⟨i + 2, lw_ix (by omega) 2 2 rfl (by decide), (by omega : i + 2 < G.2.2.1), ?_⟩
  refine bm_C.mono (pair_sure h) (fun v t I L hv => ?_)
  obtain ⟨x, rfl, hv⟩ := hv
  refine ⟨i + 1, lw_ix (by omega) 1 1 rfl (by decide), (by omega : i + 1 < G.2.2.1), ?_⟩
  refine ⟨i + 2, lw_ix (by omega) 2 2 rfl (by decide), (by omega : i + 2 < G.2.2.1), ?_⟩
  refine bm_C.mono hv (fun v t I L hv => ?_)
  obtain ⟨rfl, hv⟩ := hv
  exact And.intro (fun _ => next _ _ _ hv) (fun c => absurd rfl c)
theorem lc_dawn {i : Nat} (hi : i + 6 ≤ G.2.2.1) (hG : G.2.2.1 ≤ 3072) (h : Inv t I L) (next : ∀ t I L, Inv t I L → bm_W G l 264 18 [some (.float 0), some (.ref 0), some (.ref 61), some (.int (nI i + 6))] [] t I L Q) : bm_W G l 264 1197 [some (.float 0), some (.ref 0), some (.ref 61), some (.int (nI i))] [] t I L Q := by
  refine bm_go (am_ok_all 264 (by decide)) 200 ?_
  refine bm_C.mono (pair_dawn h) (fun v t I L hv => ?_)
  obtain ⟨x, rfl, hv⟩ := hv
  refine bm_C.mono hv (fun v t I L hv => ?_)
  obtain ⟨rfl, hv⟩ := hv
  exact And.intro (fun _ => next _ _ _ hv) (fun c => absurd rfl c)
theorem lc_lots {i : Nat} (hi : i + 6 ≤ G.2.2.1) (hG : G.2.2.1 ≤ 3072) (h : Inv t I L) (next : ∀ t I L, Inv t I L → bm_W G l 264 18 [some (.float 0), some (.ref 0), some (.ref 61), some (.int (nI i + 6))] [] t I L Q) : bm_W G l 264 1210 [some (.float 0), some (.ref 0), some (.ref 61), some (.int (nI i))] [] t I L Q := by
  refine bm_go (am_ok_all 264 (by decide)) 200 ?_
  refine ⟨i + 1, lw_ix (by omega) 1 1 rfl (by decide), (by omega : i + 1 < G.2.2.1), ?_⟩
  refine ⟨i + 2, lw_ix (by omega) 2 2 rfl (by decide), (by omega : i + 2 < G.2.2.1), ?_⟩
  refine bm_C.mono (pair_lots h) (fun v t I L hv => ?_)
  obtain ⟨x, rfl, hv⟩ := hv
  refine ⟨i + 1, lw_ix (by omega) 1 1 rfl (by decide), (by omega : i + 1 < G.2.2.1), ?_⟩
  refine ⟨i + 2, lw_ix (by omega) 2 2 rfl (by decide), (by omega : i + 2 < G.2.2.1), ?_⟩
  refine bm_C.mono hv (fun v t I L hv => ?_)
  obtain ⟨rfl, hv⟩ := hv
  exact And.intro (fun _ => next _ _ _ hv) (fun c => absurd rfl c)
theorem lc_asked {i : Nat} (hi : i + 6 ≤ G.2.2.1) (hG : G.2.2.1 ≤ 3072) (h : Inv t I L) (next : ∀ t I L, Inv t I L → bm_W G l 264 18 [some (.float 0), some (.ref 0), some (.ref 61), some (.int (nI i + 6))] [] t I L Q) : bm_W G l 264 1243 [some (.float 0), some (.ref 0), some (.ref 61), some (.int (nI i))] [] t I L Q := by
  refine bm_go (am_ok_all 264 (by decide)) 200 ?_
  refine bm_C.mono (pair_asked h) (fun v t I L hv => ?_)
  obtain ⟨x, rfl, hv⟩ := hv
  refine bm_C.mono hv (fun v t I L hv => ?_)
  obtain ⟨rfl, hv⟩ := hv
  exact And.intro (fun _ => next _ _ _ hv) (fun c => absurd rfl c)
theorem lc_upper {i : Nat} (hi : i + 6 ≤ G.2.2.1) (hG : G.2.2.1 ≤ 3072) (h : Inv t I L) (next : ∀ t I L, Inv t I L → bm_W G l 264 18 [some (.float 0), some (.ref 0), some (.ref 61), some (.int (nI i + 6))] [] t I L Q) : bm_W G l 264 1256 [some (.float 0), some (.ref 0), some (.ref 61), some (.int (nI i))] [] t I L Q := by
  refine bm_go (am_ok_all 264 (by decide)) 200 ?_
  refine bm_C.mono (pair_upper h) (fun v t I L hv => ?_)
  obtain ⟨x, rfl, hv⟩ := hv
  refine bm_C.mono hv (fun v t I L hv => ?_)
  obtain ⟨rfl, hv⟩ := hv
  refine And.intro (fun _ => next _ _ _ hv) (fun c => absurd (lw_cmp x) c)
theorem lc_lower {i : Nat} (hi : i + 6 ≤ G.2.2.1) (hG : G.2.2.1 ≤ 3072) (h : Inv t I L) (next : ∀ t I L, Inv t I L → bm_W G l 264 18 [some (.float 0), some (.ref 0), some (.ref 61), some (.int (nI i + 6))] [] t I L Q) : bm_W G l 264 1270 [some (.float 0), some (.ref 0), some (.ref 61), some (.int (nI i))] [] t I L Q := by
  refine bm_go (am_ok_all 264 (by decide)) 200 ?_
  refine bm_C.mono (pair_lower h) (fun v t I L hv => ?_)
  obtain ⟨x, rfl, hv⟩ := hv
  refine bm_C.mono hv (fun v t I L hv => ?_)
  obtain ⟨rfl, hv⟩ := hv
  refine And.intro (fun _ => next _ _ _ hv) (fun c => absurd (lw_cmp x) c)
theorem lc_count {i : Nat} (hi : i + 6 ≤ G.2.2.1) (hG : G.2.2.1 ≤ 3072) (h : Inv t I L) (next : ∀ t I L, Inv t I L → bm_W G l 264 18 [some (.float 0), some (.ref 0), some (.ref 61), some (.int (nI i + 6))] [] t I L Q) : bm_W G l 264 1284 [some (.float 0), some (.ref 0), some (.ref 61), some (.int (nI i))] [] t I L Q := by
  refine bm_go (am_ok_all 264 (by decide)) 200 ?_
  refine ⟨i + 1, lw_ix (by omega) 1 1 rfl (by decide), (by omega : i + 1 < G.2.2.1), ?_⟩
  refine bm_C.mono (pair_count h) (fun v t I L hv => ?_)
  obtain ⟨x, rfl, hv⟩ := hv
  refine ⟨i + 1, lw_ix (by omega) 1 1 rfl (by decide), (by omega : i + 1 < G.2.2.1), ?_⟩
  refine bm_C.mono hv (fun v t I L hv => ?_)
  obtain ⟨rfl, hv⟩ := hv
  exact And.intro (fun _ => next _ _ _ hv) (fun c => absurd rfl c)
theorem lc_finding {i : Nat} (hi : i + 6 ≤ G.2.2.1) (hG : G.2.2.1 ≤ 3072) (h : Inv t I L) (next : ∀ t I L, Inv t I L → bm_W G l 264 18 [some (.float 0), some (.ref 0), some (.ref 61), some (.int (nI i + 6))] [] t I L Q) : bm_W G l 264 1307 [some (.float 0), some (.ref 0), some (.ref 61), some (.int (nI i))] [] t I L Q := by
  refine bm_go (am_ok_all 264 (by decide)) 200 ?_
  refine bm_C.mono (pair_finding h) (fun v t I L hv => ?_)
  obtain ⟨x, rfl, hv⟩ := hv
  refine bm_C.mono hv (fun v t I L hv => ?_)
  obtain ⟨rfl, hv⟩ := hv
  exact And.intro (fun _ => next _ _ _ hv) (fun c => absurd rfl c)
theorem lc_findings {i : Nat} (hi : i + 6 ≤ G.2.2.1) (hG : G.2.2.1 ≤ 3072) (h : Inv t I L) (next : ∀ t I L, Inv t I L → bm_W G l 264 18 [some (.float 0), some (.ref 0), some (.ref 61), some (.int (nI i + 6))] [] t I L Q) : bm_W G l 264 1320 [some (.float 0), some (.ref 0), some (.ref 61), some (.int (nI i))] [] t I L Q := by
  refine bm_go (am_ok_all 264 (by decide)) 200 ?_
  refine ⟨i + 1, lw_ix (by omega) 1 1 rfl (by decide), (by omega : i + 1 < G.2.2.1), ?_⟩
  refine bm_C.mono (pair_findings h) (fun v t I L hv => ?_)
  obtain ⟨x, rfl, hv⟩ := hv
  refine ⟨i + 1, lw_ix (by omega) 1 1 rfl (by decide), (by omega : i + 1 < G.2.2.1), ?_⟩
  refine bm_C.mono hv (fun v t I L hv => ?_)
  obtain ⟨rfl, hv⟩ := hv
  exact And.intro (fun _ => next _ _ _ hv) (fun c => absurd rfl c)
theorem lc_digest {i : Nat} (hi : i + 6 ≤ G.2.2.1) (hG : G.2.2.1 ≤ 3072) (h : Inv t I L) (next : ∀ t I L, Inv t I L → bm_W G l 264 18 [some (.float 0), some (.ref 0), some (.ref 61), some (.int (nI i + 6))] [] t I L Q) : bm_W G l 264 1343 [some (.float 0), some (.ref 0), some (.ref 61), some (.int (nI i))] [] t I L Q := by
  refine bm_go (am_ok_all 264 (by decide)) 200 ?_
  refine bm_C.mono (pair_digest h) (fun v t I L hv => ?_)
  obtain ⟨x, rfl, hv⟩ := hv
  refine bm_C.mono hv (fun v t I L hv => ?_)
  obtain ⟨rfl, hv⟩ := hv
  refine And.intro (fun _ => next _ _ _ hv) (fun c => absurd (lw_cmp x) c)
theorem lw_len {n : Nat} (h : n ≤ 3072) : (Int32.ofNat n - 6).toInt = (n : Int) - 6 := by
  have a : (Int32.ofNat n).toInt = (n : Int) := nI_toInt (by omega)
  rw [Int32.toInt_sub, a]
  show ((n : Int) - 6).bmod _ = _
  rw [Int.bmod_eq_of_le (by omega) (by omega)]
theorem lw_loop (hG : G.2.2.1 ≤ 3072) : ∀ (d i : Nat) (y : Int32) (t : am_T) (I : am_I) (L : am_J), G.2.2.1 - i ≤ d → i ≤ 4000 → y = nI i → Inv t I L → bm_W G l 264 18 [some (.float 0), some (.ref 0), some (.ref 61), some (.int y)] [] t I L (fun v _ _ _ => v = some (.int 1)) := by
  intro d
  induction d with
  | zero =>
    intro i y t I L hd hi hy h
    subst hy
    refine bm_go (am_ok_all 264 (by decide)) 11 ?_
    have e : (Int32.ofNat G.2.2.1 - 6).toInt = (G.2.2.1 : Int) - 6 := lw_len hG
    refine And.intro (fun _ => ?_) (fun c => ?_)
    · exact ⟨Or.inr rfl, rfl⟩
    · rw [e, nI_toInt (by omega)] at c
      omega
  | succ d ih =>
    intro i y t I L hd hi hy h
    subst hy
    refine bm_go (am_ok_all 264 (by decide)) 11 ?_
    have e : (Int32.ofNat G.2.2.1 - 6).toInt = (G.2.2.1 : Int) - 6 := lw_len hG
    refine And.intro (fun _ => ?_) (fun c => ?_)
    · exact ⟨Or.inr rfl, rfl⟩
    · rw [e, nI_toInt (by omega)] at c
      have h6 : i + 6 ≤ G.2.2.1 := by omega
      have next : ∀ t I L, Inv t I L → bm_W G l 264 18 [some (.float 0), some (.ref 0), some (.ref 61), some (.int (nI i + 6))] [] t I L (fun v _ _ _ => v = some (.int 1)) := fun t I L h => ih (i + 6) _ t I L (by omega) (by omega) (by rw [show (6 : Int32) = nI 6 from rfl, nI_add]) h
      refine ⟨i, nI_toInt (by omega), (by omega : i < G.2.2.1), ?_⟩
      refine And.intro (fun _ => lc_row h6 hG h next) (fun _ => ?_)
      refine And.intro (fun _ => lc_lay h6 hG h next) (fun _ => ?_)
      refine And.intro (fun _ => lc_at h6 hG h next) (fun _ => ?_)
      refine And.intro (fun _ => lc_tear h6 hG h next) (fun _ => ?_)
      refine And.intro (fun _ => lc_copy h6 hG h next) (fun _ => ?_)
      refine And.intro (fun _ => lc_mean h6 hG h next) (fun _ => ?_)
      refine And.intro (fun _ => lc_text h6 hG h next) (fun _ => ?_)
      refine And.intro (fun _ => lc_put h6 hG h next) (fun _ => ?_)
      refine And.intro (fun _ => lc_fault h6 hG h next) (fun _ => ?_)
      refine And.intro (fun _ => lc_town h6 hG h next) (fun _ => ?_)
      refine And.intro (fun _ => lc_cell h6 hG h next) (fun _ => ?_)
      refine And.intro (fun _ => lc_lamp h6 hG h next) (fun _ => ?_)
      refine And.intro (fun _ => lc_mark h6 hG h next) (fun _ => ?_)
      refine And.intro (fun _ => lc_shines h6 hG h next) (fun _ => ?_)
      refine And.intro (fun _ => lc_light h6 hG h next) (fun _ => ?_)
      refine And.intro (fun _ => lc_shade h6 hG h next) (fun _ => ?_)
      refine And.intro (fun _ => lc_begin h6 hG h next) (fun _ => ?_)
      refine And.intro (fun _ => lc_may h6 hG h next) (fun _ => ?_)
      refine And.intro (fun _ => lc_act h6 hG h next) (fun _ => ?_)
      refine And.intro (fun _ => lc_where h6 hG h next) (fun _ => ?_)
      refine And.intro (fun _ => lc_lit h6 hG h next) (fun _ => ?_)
      refine And.intro (fun _ => lc_undo h6 hG h next) (fun _ => ?_)
      refine And.intro (fun _ => lc_judge h6 hG h next) (fun _ => ?_)
      refine And.intro (fun _ => lc_keep h6 hG h next) (fun _ => ?_)
      refine And.intro (fun _ => lc_on h6 hG h next) (fun _ => ?_)
      refine And.intro (fun _ => lc_shortest h6 hG h next) (fun _ => ?_)
      refine And.intro (fun _ => lc_orders h6 hG h next) (fun _ => ?_)
      refine And.intro (fun _ => lc_first h6 hG h next) (fun _ => ?_)
      refine And.intro (fun _ => lc_bars h6 hG h next) (fun _ => ?_)
      refine And.intro (fun _ => lc_rings h6 hG h next) (fun _ => ?_)
      refine And.intro (fun _ => lc_dark h6 hG h next) (fun _ => ?_)
      refine And.intro (fun _ => lc_bright h6 hG h next) (fun _ => ?_)
      refine And.intro (fun _ => lc_shades h6 hG h next) (fun _ => ?_)
      refine And.intro (fun _ => lc_two h6 hG h next) (fun _ => ?_)
      refine And.intro (fun _ => lc_thief h6 hG h next) (fun _ => ?_)
      refine And.intro (fun _ => lc_saw h6 hG h next) (fun _ => ?_)
      refine And.intro (fun _ => lc_forget h6 hG h next) (fun _ => ?_)
      refine And.intro (fun _ => lc_fits h6 hG h next) (fun _ => ?_)
      refine And.intro (fun _ => lc_sure h6 hG h next) (fun _ => ?_)
      refine And.intro (fun _ => lc_dawn h6 hG h next) (fun _ => ?_)
      refine And.intro (fun _ => lc_lots h6 hG h next) (fun _ => ?_)
      refine And.intro (fun _ => lc_asked h6 hG h next) (fun _ => ?_)
      refine And.intro (fun _ => lc_upper h6 hG h next) (fun _ => ?_)
      refine And.intro (fun _ => lc_lower h6 hG h next) (fun _ => ?_)
      refine And.intro (fun _ => lc_count h6 hG h next) (fun _ => ?_)
      refine And.intro (fun _ => lc_finding h6 hG h next) (fun _ => ?_)
      refine And.intro (fun _ => lc_findings h6 hG h next) (fun _ => ?_)
      refine And.intro (fun _ => lc_digest h6 hG h next) (fun _ => ?_)
      refine bm_go (am_ok_all 264 (by decide)) 5 ?_
      exact next _ _ _ h
end LW

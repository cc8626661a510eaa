section PGH
variable {NL IL n m t : Nat} {se : Int32} {K A B O U ST DB TV TT V W : Nat → Int32}
/-! the reference's nextTest -/
theorem yg_151 {post : Int32 → SY → Prop} {v M : Nat} {tt : Int32} (hw : pg_Wf K A B n) (hn : n ≤ 32) (hM : (1 : Int32) <<< (nI m &&& 31) = nI M) (hM2 : M ≤ 1024) (hv : v < M) (h : ∀ V W : Nat → Int32, post (nI v) (nI NL, nI IL, nI n, nI m, se, nI t, K, A, B, O, U, (pg_st ST (pg_d K A B O U n v) (2 * n)), (pg_db ST DB (pg_d K A B O U n v) tt (2 * n)), TV, TT, V, W)) : ∀ (d i : Nat) (V W : Nat → Int32), i + d = 2 * n → wY_nextTest_151 post (nI v) tt (d + 1) (nI i) (nI NL) (nI IL) (nI n) (nI m) se (nI t) K A B O U (pg_st ST (pg_d K A B O U n v) i) (pg_db ST DB (pg_d K A B O U n v) tt i) TV TT V W := by
  intro d
  induction d with
  | zero =>
    intro i V W hi
    have e : i = 2 * n := by omega
    subst e
    exact br_t (by rw [pg_2n]; exact Int32.le_refl _) (h V W)
  | succ d ih =>
    intro i V W hi
    have hin : vp_in (nI i) 64 := vp_in_nI (by omega) (by decide)
    have hcl : (nI i).toNatClampNeg = i := nI_clamp (by omega)
    refine br_f (by rw [pg_2n]; exact nI_ge (by omega) (by omega)) ⟨hin, ?_⟩
    by_cases c : ST i = 0
    · refine br_t (by rw [hcl, pg_st_i]; exact c) (yg_det hw hn hM hM2 hv (by omega) (fun hd V' W' => ?_) (fun hd V' W' => ?_))
      · exact br_f (by decide) ⟨hin, nm_r (e' := pg_st ST (pg_d K A B O U n v) (i + 1)) (by rw [hcl]; exact pg_st_t c hd) ⟨hin, nm_r (e' := pg_db ST DB (pg_d K A B O U n v) tt (i + 1)) (by rw [hcl]; exact pg_db_t c hd) (nm_r (nI_1 i) (ih (i + 1) V' W' (by omega)))⟩⟩
      · have hz : ¬ (ST i = 0 ∧ pg_d K A B O U n v i = true) := pg_nz hd
        refine br_t rfl (nm_r (nI_1 i) ?_)
        rw [pg_st_n hz, pg_db_n hz]
        exact ih (i + 1) V' W' (by omega)
    · have hz : ¬ (ST i = 0 ∧ pg_d K A B O U n v i = true) := fun z => c z.1
      refine br_f (by rw [hcl, pg_st_i]; exact c) (nm_r (nI_1 i) ?_)
      rw [pg_st_n hz, pg_db_n hz]
      exact ih (i + 1) V W (by omega)
/-- the vector is found: the loop runs on to its end, then the test is recorded -/
theorem yg_64a {post : Int32 → SY → Prop} {v f M : Nat} (hw : pg_Wf K A B n) (hn : n ≤ 32) (hM : (1 : Int32) <<< (nI m &&& 31) = nI M) (hM2 : M ≤ 1024) (hv : v < M) (ht : t < 64) (h : ∀ V W : Nat → Int32, post (nI v) (nI NL, nI IL, nI n, nI m, se, nI (t + 1), K, A, B, O, U, (pg_st ST (pg_d K A B O U n v) (2 * n)), (pg_db ST DB (pg_d K A B O U n v) (nI t) (2 * n)), (upd TV t (nI v)), (upd TT t (nI f)), V, W)) : ∀ (d i : Nat) (V W : Nat → Int32), i + d = M → wY_nextTest_64 post (nI f) (nI M) (d + 1) (nI v) (nI i) (nI NL) (nI IL) (nI n) (nI m) se (nI t) K A B O U ST DB TV TT V W := by
  intro d
  induction d with
  | zero =>
    intro i V W hi
    have hin : vp_in (nI t) 64 := vp_in_nI ht (by decide)
    have hcl : (nI t).toNatClampNeg = t := nI_clamp (by omega)
    have H := yg_151 (NL := NL) (IL := IL) (se := se) (t := t + 1) (TV := upd TV t (nI v)) (TT := upd TT t (nI f)) hw hn hM hM2 hv h (2 * n) 0 V W (by omega)
    rw [pg_st_0, pg_db_0] at H
    exact br_t (nI_le (by omega) (by omega)) (br_t (nI_pos' (by omega)) (br_t (nI_lt (b := 64) ht (by decide)) ⟨hin, nm_r (e' := upd TV t (nI v)) (by rw [hcl]) ⟨hin, nm_r (e' := upd TT t (nI f)) (by rw [hcl]) (nm_r (nI_1 t) ⟨2 * n + 1, H⟩)⟩⟩))
  | succ d ih =>
    intro i V W hi
    exact br_f (nI_ge (by omega) (by omega)) (br_t (nI_pos' (by omega)) (nm_r (nI_1 i) (ih (i + 1) V W (by omega))))
/-- the least vector is v -/
theorem yg_64b {post : Int32 → SY → Prop} {v f M : Nat} (hw : pg_Wf K A B n) (hn : n ≤ 32) (hM : (1 : Int32) <<< (nI m &&& 31) = nI M) (hM2 : M ≤ 1024) (hv : v < M) (hf : f < 2 * n) (ht : t < 64) (hd : pg_d K A B O U n v f = true) (hl : ∀ w, w < v → pg_d K A B O U n w f = false) (h : ∀ V W : Nat → Int32, post (nI v) (nI NL, nI IL, nI n, nI m, se, nI (t + 1), K, A, B, O, U, (pg_st ST (pg_d K A B O U n v) (2 * n)), (pg_db ST DB (pg_d K A B O U n v) (nI t) (2 * n)), (upd TV t (nI v)), (upd TT t (nI f)), V, W)) : ∀ (d i : Nat) (V W : Nat → Int32), i + d = M → i ≤ v → wY_nextTest_64 post (nI f) (nI M) (d + 1) (-1) (nI i) (nI NL) (nI IL) (nI n) (nI m) se (nI t) K A B O U ST DB TV TT V W := by
  intro d
  induction d with
  | zero =>
    intro i V W hi hiv
    omega
  | succ d ih =>
    intro i V W hi hiv
    refine br_f (nI_ge (by omega) (by omega)) (br_f (by decide) (yg_det hw hn hM hM2 (by omega) hf (fun hd' V' W' => ?_) (fun hd' V' W' => ?_)))
    · have e : i = v := by
        by_cases e : i = v
        · exact e
        · rw [hl i (by omega)] at hd'
          exact absurd hd' (by decide)
      subst e
      exact br_f (by decide) (nm_r (nI_1 i) (yg_64a hw hn hM hM2 hv ht h d (i + 1) V' W' (by omega)))
    · have e : i ≠ v := by
        intro e
        rw [e, hd] at hd'
        exact absurd hd' (by decide)
      exact br_t rfl (nm_r (nI_1 i) (ih (i + 1) V' W' (by omega) (by omega)))
/-- no vector -/
theorem yg_64n {post : Int32 → SY → Prop} {f M : Nat} (hw : pg_Wf K A B n) (hn : n ≤ 32) (hM : (1 : Int32) <<< (nI m &&& 31) = nI M) (hM2 : M ≤ 1024) (hf : f < 2 * n) (hl : ∀ w, w < M → pg_d K A B O U n w f = false) (h : ∀ V W : Nat → Int32, post (-1) (nI NL, nI IL, nI n, nI m, se, nI t, K, A, B, O, U, (upd ST f 2), DB, TV, TT, V, W)) : ∀ (d i : Nat) (V W : Nat → Int32), i + d = M → wY_nextTest_64 post (nI f) (nI M) (d + 1) (-1) (nI i) (nI NL) (nI IL) (nI n) (nI m) se (nI t) K A B O U ST DB TV TT V W := by
  intro d
  induction d with
  | zero =>
    intro i V W hi
    have hcl : (nI f).toNatClampNeg = f := nI_clamp (by omega)
    exact br_t (nI_le (by omega) (by omega)) (br_f (by decide) ⟨vp_in_nI (by omega) (by decide), nm_r (e' := upd ST f 2) (by rw [hcl]) (h V W)⟩)
  | succ d ih =>
    intro i V W hi
    refine br_f (nI_ge (by omega) (by omega)) (br_f (by decide) (yg_det hw hn hM hM2 (by omega) hf (fun hd' V' W' => ?_) (fun hd' V' W' => ?_)))
    · rw [hl i (by omega)] at hd'
      exact absurd hd' (by decide)
    · exact br_t rfl (nm_r (nI_1 i) (ih (i + 1) V' W' (by omega)))
/-- the fault is found: the loop runs on to its end -/
theorem yg_14a {post : Int32 → SY → Prop} {f M : Nat} (hn : n ≤ 32) (hf : f < 2 * n) (hM : (1 : Int32) <<< (nI m &&& 31) = nI M) (h : wY_nextTest_64 post (nI f) (nI M) (M + 1) (-1) (nI 0) (nI NL) (nI IL) (nI n) (nI m) se (nI t) K A B O U ST DB TV TT V W) : ∀ (d i : Nat), i + d = 2 * n → wY_nextTest_14 post (nI NL) (nI IL) (nI n) (nI m) se (nI t) K A B O U ST DB TV TT V W (d + 1) (nI f) (nI i) := by
  intro d
  induction d with
  | zero =>
    intro i hi
    exact br_t (by rw [pg_2n]; exact nI_le (by omega) (by omega)) (br_t (nI_pos' (by omega)) (nm_r (e' := nI M) hM ⟨M + 1, h⟩))
  | succ d ih =>
    intro i hi
    exact br_f (by rw [pg_2n]; exact nI_ge (by omega) (by omega)) (br_t (nI_pos' (by omega)) (nm_r (nI_1 i) (ih (i + 1) (by omega))))
theorem yg_14b {post : Int32 → SY → Prop} {f M : Nat} (hn : n ≤ 32) (hf : f < 2 * n) (hM : (1 : Int32) <<< (nI m &&& 31) = nI M) (h0 : ST f = 0) (hl : ∀ j, j < f → ¬ ST j = 0) (h : wY_nextTest_64 post (nI f) (nI M) (M + 1) (-1) (nI 0) (nI NL) (nI IL) (nI n) (nI m) se (nI t) K A B O U ST DB TV TT V W) : ∀ (d i : Nat), i + d = 2 * n → i ≤ f → wY_nextTest_14 post (nI NL) (nI IL) (nI n) (nI m) se (nI t) K A B O U ST DB TV TT V W (d + 1) (-1) (nI i) := by
  intro d
  induction d with
  | zero =>
    intro i hi hif
    omega
  | succ d ih =>
    intro i hi hif
    have hcl : (nI i).toNatClampNeg = i := nI_clamp (by omega)
    refine br_f (by rw [pg_2n]; exact nI_ge (by omega) (by omega)) (br_f (by decide) ⟨vp_in_nI (by omega) (by decide), ?_⟩)
    by_cases e : i = f
    · subst e
      exact br_t (by rw [hcl]; exact h0) (nm_r (nI_1 i) (yg_14a hn hf hM h d (i + 1) (by omega)))
    · exact br_f (by rw [hcl]; exact hl i (by omega)) (nm_r (nI_1 i) (ih (i + 1) (by omega) (by omega)))
theorem yg_14n {post : Int32 → SY → Prop} (hn : n ≤ 32) (hl : ∀ j, j < 2 * n → ¬ ST j = 0) (h : post (-2) (nI NL, nI IL, nI n, nI m, se, nI t, K, A, B, O, U, ST, DB, TV, TT, V, W)) : ∀ (d i : Nat), i + d = 2 * n → wY_nextTest_14 post (nI NL) (nI IL) (nI n) (nI m) se (nI t) K A B O U ST DB TV TT V W (d + 1) (-1) (nI i) := by
  intro d
  induction d with
  | zero =>
    intro i hi
    exact br_t (by rw [pg_2n]; exact nI_le (by omega) (by omega)) (br_f (by decide) h)
  | succ d ih =>
    intro i hi
    have hcl : (nI i).toNatClampNeg = i := nI_clamp (by omega)
    exact br_f (by rw [pg_2n]; exact nI_ge (by omega) (by omega)) (br_f (by decide) ⟨vp_in_nI (by omega) (by decide), br_f (by rw [hcl]; exact hl i (by omega)) (nm_r (nI_1 i) (ih (i + 1) (by omega)))⟩)
/-! seal: both loops -/
theorem xg_seal_l {q : Nat} {G F : Nat → Int32} {post : Int32 → SX → Prop} : ∀ (d i : Nat) (ST DB : Nat → Int32), i + d = 64 → (∀ st db : Nat → Int32, (∀ j, j < i → st j = ST j ∧ db j = DB j) → (∀ j, i ≤ j → j < 64 → st j = 0 ∧ db j = -1) → (∀ j, 64 ≤ j → st j = ST j ∧ db j = DB j) → post 1 (nI NL, nI IL, nI n, nI m, nI q, 1, nI t, K, A, B, O, U, st, db, TV, TT, G, F)) → wX_seal_25 post (nI NL) (nI IL) (nI n) (nI m) (nI q) se (nI t) (d + 1) (nI i) K A B O U ST DB TV TT G F := by
  intro d
  induction d with
  | zero =>
    intro i ST DB hi h
    exact br_t (nI_le (a := 64) (by omega) (by omega)) (h ST DB (fun _ _ => ⟨rfl, rfl⟩) (fun j h1 h2 => absurd h1 (by omega)) (fun _ _ => ⟨rfl, rfl⟩))
  | succ d ih =>
    intro i ST DB hi h
    have hin : vp_in (nI i) 64 := vp_in_nI (by omega) (by decide)
    have hcl : (nI i).toNatClampNeg = i := nI_clamp (by omega)
    refine br_f (nI_ge (b := 64) (by omega) (by decide)) ⟨hin, nm_r (e' := upd ST i 0) (by rw [hcl]) ⟨hin, nm_r (e' := upd DB i (-1)) (by rw [hcl]) (nm_r (nI_1 i) ?_)⟩⟩
    refine ih (i + 1) _ _ (by omega) (fun st db h1 h2 h3 => h st db (fun j hj => ?_) (fun j hj hj2 => ?_) (fun j hj => ?_))
    · have := h1 j (by omega)
      rw [pk_un (by omega), pk_un (by omega)] at this
      exact this
    · by_cases e : j = i
      · subst e
        have := h1 j (by omega)
        rw [pk_us, pk_us] at this
        exact this
      · exact h2 j (by omega) hj2
    · have := h3 j (by omega)
      rw [pk_un (by omega), pk_un (by omega)] at this
      exact this
theorem yg_seal_l {post : Int32 → SY → Prop} {st db : Nat → Int32} (h2 : ∀ j, j < 64 → st j = 0 ∧ db j = -1) (h : post 1 (nI NL, nI IL, nI n, nI m, 1, nI 0, K, A, B, O, U, st, db, TV, TT, V, W)) : ∀ (d i : Nat) (ST DB : Nat → Int32), i + d = 64 → (∀ j, j < i → st j = ST j ∧ db j = DB j) → (∀ j, 64 ≤ j → st j = ST j ∧ db j = DB j) → wY_seal_53 post (nI NL) (nI IL) (nI n) (nI m) se (nI t) (d + 1) (nI i) K A B O U ST DB TV TT V W := by
  intro d
  induction d with
  | zero =>
    intro i ST DB hi h1 h3
    have e1 : ST = st := by
      funext j
      by_cases c : j < 64
      · exact (h1 j (by omega)).1.symm
      · exact (h3 j (by omega)).1.symm
    have e2 : DB = db := by
      funext j
      by_cases c : j < 64
      · exact (h1 j (by omega)).2.symm
      · exact (h3 j (by omega)).2.symm
    rw [e1, e2]
    exact br_t (nI_le (a := 64) (by omega) (by omega)) h
  | succ d ih =>
    intro i ST DB hi h1 h3
    have hin : vp_in (nI i) 64 := vp_in_nI (by omega) (by decide)
    have hcl : (nI i).toNatClampNeg = i := nI_clamp (by omega)
    refine br_f (nI_ge (b := 64) (by omega) (by decide)) ⟨hin, nm_r (e' := upd ST i 0) (by rw [hcl]) ⟨hin, nm_r (e' := upd DB i (-1)) (by rw [hcl]) (nm_r (nI_1 i) ?_)⟩⟩
    refine ih (i + 1) _ _ (by omega) (fun j hj => ?_) (fun j hj => ?_)
    · by_cases e : j = i
      · subst e
        rw [pk_us, pk_us]
        exact h2 j (by omega)
      · rw [pk_un e, pk_un e]
        exact h1 j (by omega)
    · rw [pk_un (by omega), pk_un (by omega)]
      exact h3 j hj
/-- the reference's look for an output -/
theorem yg_20 {post : Int32 → SY → Prop} (hn : n ≤ 32) (h1 : (∃ j, j < n ∧ ¬ U j = 0) → wY_seal_53 post (nI NL) (nI IL) (nI n) (nI m) se (nI t) 65 (nI 0) K A B O U ST DB TV TT V W) (h0 : (∀ j, j < n → U j = 0) → post 0 (nI NL, nI IL, nI n, nI m, se, nI t, K, A, B, O, U, ST, DB, TV, TT, V, W)) : ∀ (d i : Nat), i + d = n → ((∃ j, j < i ∧ ¬ U j = 0) → wY_seal_20 post (nI NL) (nI IL) (nI n) (nI m) se (nI t) K A B O U ST DB TV TT V W (d + 1) 1 (nI i)) ∧ ((∀ j, j < i → U j = 0) → wY_seal_20 post (nI NL) (nI IL) (nI n) (nI m) se (nI t) K A B O U ST DB TV TT V W (d + 1) 0 (nI i)) := by
  intro d
  induction d with
  | zero =>
    intro i hi
    have e : i = n := by omega
    subst e
    exact ⟨fun z => br_t (Int32.le_refl _) (br_f (by decide) ⟨65, h1 z⟩), fun z => br_t (Int32.le_refl _) (br_t rfl (h0 z))⟩
  | succ d ih =>
    intro i hi
    have hin : vp_in (nI i) 32 := vp_in_nI (by omega) (by decide)
    have hcl : (nI i).toNatClampNeg = i := nI_clamp (by omega)
    obtain ⟨iA, iB⟩ := ih (i + 1) (by omega)
    by_cases u : U i = 0
    · constructor
      · intro ⟨j, hj, hu⟩
        exact br_f (nI_ge (by omega) (by omega)) ⟨hin, br_t (by rw [hcl]; exact u) (nm_r (nI_1 i) (iA ⟨j, by omega, hu⟩))⟩
      · intro z
        exact br_f (nI_ge (by omega) (by omega)) ⟨hin, br_t (by rw [hcl]; exact u) (nm_r (nI_1 i) (iB (lt_s z u)))⟩
    · constructor
      · intro _
        exact br_f (nI_ge (by omega) (by omega)) ⟨hin, br_f (by rw [hcl]; exact u) (nm_r (nI_1 i) (iA ⟨i, by omega, u⟩))⟩
      · intro _
        exact br_f (nI_ge (by omega) (by omega)) ⟨hin, br_f (by rw [hcl]; exact u) (nm_r (nI_1 i) (iA ⟨i, by omega, u⟩))⟩
end PGH

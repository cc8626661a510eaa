section PGF
variable {NL IL n m q t : Nat} {se : Int32} {K A B O U ST DB TV TT G F : Nat → Int32}
/-! the component's search -/
theorem xg_unc_l {post : Int32 → SX → Prop} (hn : n ≤ 32) (h1 : (∃ j, j < n ∧ ¬ U j = 0 ∧ ¬ G j = F j) → post 1 (nI NL, nI IL, nI n, nI m, nI q, se, nI t, K, A, B, O, U, ST, DB, TV, TT, G, F)) (h0 : ¬ (∃ j, j < n ∧ ¬ U j = 0 ∧ ¬ G j = F j) → post 0 (nI NL, nI IL, nI n, nI m, nI q, se, nI t, K, A, B, O, U, ST, DB, TV, TT, G, F)) : ∀ (d i : Nat), i + d = n → (∀ j, j < i → ¬ (¬ U j = 0 ∧ ¬ G j = F j)) → wX_uncovers_28 post (nI NL) (nI IL) (nI n) (nI m) (nI q) se (nI t) K A B O U ST DB TV TT G F (d + 1) (nI i) := by
  intro d
  induction d with
  | zero =>
    intro i hi hb
    refine br_t (nI_le (by omega) (by omega)) (h0 ?_)
    intro ⟨j, hj, z⟩
    exact hb j (by omega) z
  | succ d ih =>
    intro i hi hb
    have hin : vp_in (nI i) 32 := vp_in_nI (by omega) (by decide)
    have hcl : (nI i).toNatClampNeg = i := nI_clamp (by omega)
    have hnx : ¬ (¬ U i = 0 ∧ ¬ G i = F i) → ∀ y, y = nI i + 1 → wX_uncovers_28 post (nI NL) (nI IL) (nI n) (nI m) (nI q) se (nI t) K A B O U ST DB TV TT G F (d + 1) y := by
      intro hz y ey
      rw [ey, nI_1]
      exact ih (i + 1) (by omega) (lt_s hb hz)
    refine br_f (nI_ge (by omega) (by omega)) ⟨hin, ?_⟩
    by_cases u : U i = 0
    · exact br_t (by rw [hcl]; exact u) (hnx (fun z => z.1 u))
    · refine br_f (by rw [hcl]; exact u) ⟨hin, hin, ?_⟩
      by_cases e : G i = F i
      · exact br_t (by rw [hcl]; exact e) (hnx (fun z => z.2 e))
      · exact br_f (by rw [hcl]; exact e) (h1 ⟨i, by omega, u, e⟩)
theorem xg_unc {post : Int32 → SX → Prop} {v f : Nat} (hw : pg_Wf K A B n) (hn : n ≤ 32) (hf : f < 2 * n) (h1 : pg_d K A B O U n v f = true → ∀ G F : Nat → Int32, post 1 (nI NL, nI IL, nI n, nI m, nI q, se, nI t, K, A, B, O, U, ST, DB, TV, TT, G, F)) (h0 : pg_d K A B O U n v f = false → ∀ G F : Nat → Int32, post 0 (nI NL, nI IL, nI n, nI m, nI q, se, nI t, K, A, B, O, U, ST, DB, TV, TT, G, F)) : wpX_uncovers post (nI NL, nI IL, nI n, nI m, nI q, se, nI t, K, A, B, O, U, ST, DB, TV, TT, G, F) (nI v) (nI f) := by
  have e1 : nI f / 2 = nI (f / 2) := pk_div (d := 2) (by omega) (by decide) (by decide)
  have e2 : nI f - nI f / 2 * 2 = nI (f % 2) := pk_rem (d := 2) (by omega) (by decide) (by decide)
  have g0 := pg_run_ev (K := K) (A := A) (B := B) O (nI v) (-1) hw hn pg_b0
  have g1 := pg_run_ev (K := K) (A := A) (B := B) O (nI v) (nI (f / 2)) hw hn (pg_nbit (Nat.mod_lt f (by decide : 0 < 2)))
  unfold wpX_uncovers
  dsimp only
  rw [e2, e1]
  refine xg_fillG hw hn g0 (fun a ha => ?_)
  dsimp only
  refine ⟨by decide, by decide, ?_⟩
  refine xg_fillF hw hn g1 (fun b hb => ?_)
  dsimp only
  refine ⟨n + 1, xg_unc_l hn ?_ ?_ n 0 (by omega) lt_0⟩
  · intro ⟨j, hj, hu, he⟩
    exact h1 (pg_d_t ⟨j, hj, hu, by rw [← ha j hj, ← hb j hj]; exact he⟩) a b
  · intro hz
    exact h0 (pg_d_f (fun ⟨j, hj, hu, he⟩ => hz ⟨j, hj, hu, by rw [ha j hj, hb j hj]; exact he⟩)) a b
theorem xg_luf {post : Int32 → Prop} (hn : n ≤ 32) (h1 : ∀ f, f < 2 * n → ST f = 0 → (∀ j, j < f → ¬ ST j = 0) → post (nI f)) (h0 : (∀ j, j < 2 * n → ¬ ST j = 0) → post (-1)) : wpX_leastUntriedFault post (nI NL, nI IL, nI n, nI m, nI q, se, nI t, K, A, B, O, U, ST, DB, TV, TT, G, F) := by
  have H : ∀ (d i : Nat), i + d = 2 * n → (∀ j, j < i → ¬ ST j = 0) → wX_leastUntriedFault_2 post (nI NL) (nI IL) (nI n) (nI m) (nI q) se (nI t) K A B O U ST DB TV TT G F (d + 1) (nI i) := by
    intro d
    induction d with
    | zero =>
      intro i hi hb
      exact br_t (by rw [pg_2n]; exact nI_le (by omega) (by omega)) (h0 (fun j hj => hb j (by omega)))
    | succ d ih =>
      intro i hi hb
      have hcl : (nI i).toNatClampNeg = i := nI_clamp (by omega)
      refine br_f (by rw [pg_2n]; exact nI_ge (by omega) (by omega)) ⟨vp_in_nI (by omega) (by decide), ?_⟩
      by_cases c : ST i = 0
      · exact br_t (by rw [hcl]; exact c) (h1 i (by omega) c hb)
      · exact br_f (by rw [hcl]; exact c) (nm_r (nI_1 i) (ih (i + 1) (by omega) (lt_s hb c)))
  exact ⟨2 * n + 1, H (2 * n) 0 (by omega) lt_0⟩
theorem xg_ldv {post : Int32 → SX → Prop} {f M : Nat} (hw : pg_Wf K A B n) (hn : n ≤ 32) (hf : f < 2 * n) (hM : (1 : Int32) <<< (nI m &&& 31) = nI M) (hM2 : M ≤ 1024)
    (h1 : ∀ v, v < M → pg_d K A B O U n v f = true → (∀ w, w < v → pg_d K A B O U n w f = false) → ∀ G F : Nat → Int32, post (nI v) (nI NL, nI IL, nI n, nI m, nI q, se, nI t, K, A, B, O, U, ST, DB, TV, TT, G, F)) (h0 : (∀ w, w < M → pg_d K A B O U n w f = false) → ∀ G F : Nat → Int32, post (-1) (nI NL, nI IL, nI n, nI m, nI q, se, nI t, K, A, B, O, U, ST, DB, TV, TT, G, F)) : wpX_leastDetectingVector post (nI NL, nI IL, nI n, nI m, nI q, se, nI t, K, A, B, O, U, ST, DB, TV, TT, G, F) (nI f) := by
  have H : ∀ (d i : Nat) (G F : Nat → Int32), i + d = M → (∀ w, w < i → pg_d K A B O U n w f = false) → wX_leastDetectingVector_2 post (nI f) (d + 1) (nI i) (nI NL) (nI IL) (nI n) (nI m) (nI q) se (nI t) K A B O U ST DB TV TT G F := by
    intro d
    induction d with
    | zero =>
      intro i G F hi hb
      exact br_t (by rw [hM]; exact nI_le (by omega) (by omega)) (h0 (fun j hj => hb j (by omega)) G F)
    | succ d ih =>
      intro i G F hi hb
      refine br_f (by rw [hM]; exact nI_ge (by omega) (by omega)) (xg_unc hw hn hf (fun hd G' F' => ?_) (fun hd G' F' => ?_))
      · exact br_f (by decide) (h1 i (by omega) hd hb G' F')
      · exact br_t rfl (nm_r (nI_1 i) (ih (i + 1) G' F' (by omega) (lt_s hb hd)))
  exact ⟨M + 1, H M 0 G F (by omega) lt_0⟩
theorem pg_nz {st : Nat → Int32} {dt : Nat → Bool} {i : Nat} (h : dt i = false) : ¬ (st i = 0 ∧ dt i = true) := by
  intro z
  rw [h] at z
  exact absurd z.2 (by decide)
theorem xg_rec_l {post : SX → Prop} {v : Nat} {tt : Int32} (hw : pg_Wf K A B n) (hn : n ≤ 32) (h : ∀ G F : Nat → Int32, post (nI NL, nI IL, nI n, nI m, nI q, se, nI t, K, A, B, O, U, (pg_st ST (pg_d K A B O U n v) (2 * n)), (pg_db ST DB (pg_d K A B O U n v) tt (2 * n)), TV, TT, G, F)) : ∀ (d i : Nat) (G F : Nat → Int32), i + d = 2 * n → wX_recordTest_32 post (nI v) tt (d + 1) (nI i) (nI NL) (nI IL) (nI n) (nI m) (nI q) se (nI t) K A B O U (pg_st ST (pg_d K A B O U n v) i) (pg_db ST DB (pg_d K A B O U n v) tt i) TV TT G F := by
  intro d
  induction d with
  | zero =>
    intro i G F hi
    have e : i = 2 * n := by omega
    subst e
    exact br_t (by rw [pg_2n]; exact Int32.le_refl _) (h G F)
  | succ d ih =>
    intro i G F hi
    have hin : vp_in (nI i) 64 := vp_in_nI (by omega) (by decide)
    have hcl : (nI i).toNatClampNeg = i := nI_clamp (by omega)
    refine br_f (by rw [pg_2n]; exact nI_ge (by omega) (by omega)) ⟨hin, ?_⟩
    by_cases c : ST i = 0
    · refine br_t (by rw [hcl, pg_st_i]; exact c) (xg_unc hw hn (by omega) (fun hd G' F' => ?_) (fun hd G' F' => ?_))
      · exact br_f (by decide) ⟨hin, nm_r (e' := pg_st ST (pg_d K A B O U n v) (i + 1)) (by rw [hcl]; exact pg_st_t c hd) ⟨hin, nm_r (e' := pg_db ST DB (pg_d K A B O U n v) tt (i + 1)) (by rw [hcl]; exact pg_db_t c hd) (nm_r (nI_1 i) (ih (i + 1) G' F' (by omega)))⟩⟩
      · have hz : ¬ (ST i = 0 ∧ pg_d K A B O U n v i = true) := pg_nz hd
        refine br_t rfl (nm_r (nI_1 i) ?_)
        rw [pg_st_n hz, pg_db_n hz]
        exact ih (i + 1) G' F' (by omega)
    · have hz : ¬ (ST i = 0 ∧ pg_d K A B O U n v i = true) := fun z => c z.1
      refine br_f (by rw [hcl, pg_st_i]; exact c) (nm_r (nI_1 i) ?_)
      rw [pg_st_n hz, pg_db_n hz]
      exact ih (i + 1) G F (by omega)
theorem xg_rec {post : SX → Prop} {v f : Nat} (hw : pg_Wf K A B n) (hn : n ≤ 32) (ht : t < 64) (h : ∀ G F : Nat → Int32, post (nI NL, nI IL, nI n, nI m, nI q, se, nI (t + 1), K, A, B, O, U, (pg_st ST (pg_d K A B O U n v) (2 * n)), (pg_db ST DB (pg_d K A B O U n v) (nI t) (2 * n)), (upd TV t (nI v)), (upd TT t (nI f)), G, F)) : wpX_recordTest post (nI NL, nI IL, nI n, nI m, nI q, se, nI t, K, A, B, O, U, ST, DB, TV, TT, G, F) (nI v) (nI f) := by
  have hin : vp_in (nI t) 64 := vp_in_nI ht (by decide)
  have hcl : (nI t).toNatClampNeg = t := nI_clamp (by omega)
  have H := xg_rec_l (NL := NL) (IL := IL) (m := m) (q := q) (se := se) (t := t + 1) (TV := upd TV t (nI v)) (TT := upd TT t (nI f)) hw hn h (2 * n) 0 G F (by omega)
  rw [pg_st_0, pg_db_0] at H
  exact ⟨hin, nm_r (e' := upd TV t (nI v)) (by rw [hcl]) ⟨hin, nm_r (e' := upd TT t (nI f)) (by rw [hcl]) (nm_r (nI_1 t) ⟨2 * n + 1, H⟩)⟩⟩
theorem xg_sim_l {post : Int32 → SX → Prop} {v : Nat} (hw : pg_Wf K A B n) (hn : n ≤ 32) (h : ∀ G F : Nat → Int32, post (nI (pg_cnt (pg_d K A B O U n v) (2 * n))) (nI NL, nI IL, nI n, nI m, nI q, se, nI t, K, A, B, O, U, ST, DB, TV, TT, G, F)) : ∀ (d i : Nat) (G F : Nat → Int32), i + d = 2 * n → wX_simulate_14 post (nI v) (d + 1) (nI (pg_cnt (pg_d K A B O U n v) i)) (nI i) (nI NL) (nI IL) (nI n) (nI m) (nI q) se (nI t) K A B O U ST DB TV TT G F := by
  intro d
  induction d with
  | zero =>
    intro i G F hi
    have e : i = 2 * n := by omega
    subst e
    exact br_t (by rw [pg_2n]; exact Int32.le_refl _) (h G F)
  | succ d ih =>
    intro i G F hi
    refine br_f (by rw [pg_2n]; exact nI_ge (by omega) (by omega)) (xg_unc hw hn (by omega) (fun hd G' F' => ?_) (fun hd G' F' => ?_))
    · exact br_f (by decide) (nm_r (e' := nI (pg_cnt (pg_d K A B O U n v) (i + 1))) (by rw [pg_cnt_t hd, nI_1]) (nm_r (nI_1 i) (ih (i + 1) G' F' (by omega))))
    · have H := ih (i + 1) G' F' (by omega)
      rw [pg_cnt_f hd] at H
      exact br_t rfl (nm_r (nI_1 i) H)
end PGF

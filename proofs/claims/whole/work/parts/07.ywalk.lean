section PGG
variable {NL IL n m t : Nat} {se : Int32} {K A B O U ST DB TV TT V W : Nat → Int32}
/-! the reference's evaluation -/
/-- how the reference's fault names the stuck node and its value -/
def yg_Fa (fa s sv : Int32) : Prop := (fa = -1 ∧ s = -1) ∨ (∃ f : Nat, f < 64 ∧ fa = nI f ∧ s = nI (f / 2) ∧ sv = nI (f % 2))
theorem yg_191 {post : SY → Prop} {J : Int32 → (Nat → Int32) → (Nat → Int32) → (Nat → Int32) → (Nat → Int32) → (Nat → Int32) → (Nat → Int32) → (Nat → Int32) → (Nat → Int32) → (Nat → Int32) → (Nat → Int32) → (Nat → Int32) → Prop} {v fa s sv x y : Int32} {i : Nat} (hi : i < 32) (hfa : yg_Fa fa s sv) (hy : y = if nI i = s then sv else x) (h : J (nI (i + 1)) K A B O U ST DB TV TT (upd V i y) W) : wY_run_191 post J v fa (nI i) x (nI NL) (nI IL) (nI n) (nI m) se (nI t) K A B O U ST DB TV TT V W := by
  have hin : vp_in (nI i) 32 := vp_in_nI hi (by decide)
  have hcl : (nI i).toNatClampNeg = i := nI_clamp (by omega)
  rcases hfa with ⟨rfl, rfl⟩ | ⟨f, hf, rfl, rfl, rfl⟩
  · rw [if_neg (pg_n1 (by omega))] at hy
    exact br_t (by decide) ⟨hin, nm_r (e' := upd V i y) (by rw [hcl, hy]) (nm_r (nI_1 i) h)⟩
  · have e1 : nI f / 2 = nI (f / 2) := pk_div (d := 2) (by omega) (by decide) (by decide)
    have e2 : nI f - nI f / 2 * 2 = nI (f % 2) := pk_rem (d := 2) (by omega) (by decide) (by decide)
    refine br_f (nI_pos (by omega)) ⟨by decide, ?_⟩
    by_cases c : nI i = nI (f / 2)
    · rw [if_pos c] at hy
      refine br_t (by rw [e1]; exact c.symm) ⟨by decide, nm_r (e' := y) (by rw [e2]; exact hy.symm) ⟨hin, nm_r (e' := upd V i y) (by rw [hcl]) (nm_r (nI_1 i) h)⟩⟩
    · rw [if_neg c] at hy
      exact br_f (by rw [e1]; exact fun z => c z.symm) ⟨hin, nm_r (e' := upd V i y) (by rw [hcl, hy]) (nm_r (nI_1 i) h)⟩
theorem yg_run_l {post : SY → Prop} {v fa s sv : Int32} {g : Nat → Int32} (hw : pg_Wf K A B n) (hn : n ≤ 32) (hg : pg_Ev K A B O v s sv n g) (hfa : yg_Fa fa s sv) (hp : ∀ a : Nat → Int32, (∀ j, j < n → a j = g j) → post (nI NL, nI IL, nI n, nI m, se, nI t, K, A, B, O, U, ST, DB, TV, TT, a, W)) : ∀ (d i : Nat) (a : Nat → Int32), i + d = n → (∀ j, j < i → a j = g j) → wY_run_2 post v fa (nI NL) (nI IL) (nI n) (nI m) se (nI t) (d + 1) (nI i) K A B O U ST DB TV TT a W := by
  intro d
  induction d with
  | zero =>
    intro i a hi ha
    exact br_t (nI_le (by omega) (by omega)) (hp a (fun j hj => ha j (by omega)))
  | succ d ih =>
    intro i a hi ha
    have hin : vp_in (nI i) 32 := vp_in_nI (by omega) (by decide)
    have hcl : (nI i).toNatClampNeg = i := nI_clamp (by omega)
    have hgi := (hg i (by omega)).1
    unfold pg_step at hgi
    have hup : ∀ x, x = (if K i = 8 then (v >>> (O i &&& 31)) &&& 1 else pg_gate (K i) (g (A i).toNatClampNeg) (g (B i).toNatClampNeg)) → wY_run_191 post (wY_run_2 post v fa (nI NL) (nI IL) (nI n) (nI m) se (nI t) (d + 1)) v fa (nI i) x (nI NL) (nI IL) (nI n) (nI m) se (nI t) K A B O U ST DB TV TT a W := by
      intro x ex
      refine yg_191 (y := g i) (by omega) hfa (by rw [ex]; exact hgi) ?_
      refine ih (i + 1) _ (by omega) (lt_s (fun j hj => ?_) ?_)
      · rw [pk_un (by omega)]
        exact ha j hj
      · rw [pk_us]
    refine br_f (nI_ge (by omega) (by omega)) ⟨hin, ?_⟩
    by_cases h2 : K i = 8
    · rw [if_pos h2] at hup
      refine nm_r (e' := 8) (by rw [hcl]; exact h2) (br_t rfl ⟨hin, nm_r (e' := (v >>> (O i &&& 31)) &&& 1) (by rw [hcl]) (hup _ rfl)⟩)
    · rw [if_neg h2] at hup
      obtain ⟨⟨k, hk, ek⟩, h3⟩ := hw i (by omega)
      rcases h3 with h3 | ⟨⟨a1, ha1, ea1⟩, ⟨b1, hb1, eb1⟩⟩
      · exact absurd h3 h2
      · have hk7 : k ≤ 7 := by
          by_cases e8 : k = 8
          · exact absurd (by rw [ek, e8]; rfl) h2
          · omega
        rw [ek, ea1, eb1, nI_clamp (by omega), nI_clamp (by omega)] at hup
        have hk8 : ¬ nI k = 8 := by rw [← ek]; exact h2
        have eA : A (nI i).toNatClampNeg = nI a1 := by rw [hcl]; exact ea1
        have eB : B (nI i).toNatClampNeg = nI b1 := by rw [hcl]; exact eb1
        have va : a (nI a1).toNatClampNeg &&& 1 = g a1 := by rw [nI_clamp (by omega), ha a1 ha1]; exact pg_a1 (hg a1 (by omega)).2
        have vb : a (nI b1).toNatClampNeg &&& 1 = g b1 := by rw [nI_clamp (by omega), ha b1 hb1]; exact pg_a1 (hg b1 (by omega)).2
        refine nm_r (e' := nI k) (by rw [hcl]; exact ek) (br_f hk8 ⟨hin, by rw [eA]; exact vp_in_nI (by omega) (by decide), nm_r (e' := g a1) (by rw [eA]; exact va) ⟨hin, by rw [eB]; exact vp_in_nI (by omega) (by decide), nm_r (e' := g b1) (by rw [eB]; exact vb) ?_⟩⟩)
        clear hk8 hk ek h2 eA eB va vb
        rcases pg_k8 hk7 with rfl | rfl | rfl | rfl | rfl | rfl | rfl | rfl
        · exact br_t (by decide) (hup _ (pg_g0 _ _).symm)
        · exact br_f (by decide) (br_t (by decide) (nm_e (hup _ (pg_g1 _ _).symm)))
        · exact br_f (by decide) (br_f (by decide) (br_t (by decide) (nm_e (hup _ (pg_g2 _ _).symm))))
        · exact br_f (by decide) (br_f (by decide) (br_f (by decide) (br_t (by decide) (nm_e (hup _ (pg_g3 _ _).symm)))))
        · exact br_f (by decide) (br_f (by decide) (br_f (by decide) (br_f (by decide) (br_t (by decide) (nm_e (hup _ (pg_g4 _ _).symm))))))
        · exact br_f (by decide) (br_f (by decide) (br_f (by decide) (br_f (by decide) (br_f (by decide) (br_t (by decide) (nm_e (hup _ (pg_g5 _ _).symm)))))))
        · exact br_f (by decide) (br_f (by decide) (br_f (by decide) (br_f (by decide) (br_f (by decide) (br_f (by decide) (br_t (by decide) (nm_e (hup _ (pg_g6 _ _).symm))))))))
        · exact br_f (by decide) (br_f (by decide) (br_f (by decide) (br_f (by decide) (br_f (by decide) (br_f (by decide) (br_f (by decide) (nm_e (hup _ (pg_g7 _ _).symm))))))))
theorem yg_run {post : SY → Prop} {v fa s sv : Int32} {g : Nat → Int32} (hw : pg_Wf K A B n) (hn : n ≤ 32) (hg : pg_Ev K A B O v s sv n g) (hfa : yg_Fa fa s sv) (hp : ∀ a : Nat → Int32, (∀ j, j < n → a j = g j) → post (nI NL, nI IL, nI n, nI m, se, nI t, K, A, B, O, U, ST, DB, TV, TT, a, W)) : wpY_run post (nI NL, nI IL, nI n, nI m, se, nI t, K, A, B, O, U, ST, DB, TV, TT, V, W) v fa :=
  ⟨n + 1, yg_run_l hw hn hg hfa hp n 0 V (by omega) lt_0⟩
/-! the reference's search -/
theorem yg_66 {post : Int32 → SY → Prop} (hn : n ≤ 32) (h1 : (∃ j, j < n ∧ ¬ U j = 0 ∧ ¬ W j = V j) → post 1 (nI NL, nI IL, nI n, nI m, se, nI t, K, A, B, O, U, ST, DB, TV, TT, V, W)) (h0 : ¬ (∃ j, j < n ∧ ¬ U j = 0 ∧ ¬ W j = V j) → post 0 (nI NL, nI IL, nI n, nI m, se, nI t, K, A, B, O, U, ST, DB, TV, TT, V, W)) : ∀ (d i : Nat), i + d = n → (∀ j, j < i → ¬ (¬ U j = 0 ∧ ¬ W j = V j)) → wY_detects_66 post (nI NL) (nI IL) (nI n) (nI m) se (nI t) K A B O U ST DB TV TT V W (d + 1) (nI i) := by
  intro d
  induction d with
  | zero =>
    intro i hi hb
    refine br_t (nI_le (by omega) (by omega)) (h0 ?_)
    intro ⟨j, hj, z⟩
    exact hb j (by omega) z
  | succ d ih =>
    intro i hi hb
    have hin : vp_in (nI i) 32 := vp_in_nI (by omega) (by decide)
    have hcl : (nI i).toNatClampNeg = i := nI_clamp (by omega)
    have hnx : ¬ (¬ U i = 0 ∧ ¬ W i = V i) → ∀ y, y = nI i + 1 → wY_detects_66 post (nI NL) (nI IL) (nI n) (nI m) se (nI t) K A B O U ST DB TV TT V W (d + 1) y := by
      intro hz y ey
      rw [ey, nI_1]
      exact ih (i + 1) (by omega) (lt_s hb hz)
    refine br_f (nI_ge (by omega) (by omega)) ⟨hin, ?_⟩
    by_cases u : U i = 0
    · exact br_t (by rw [hcl]; exact u) (hnx (fun z => z.1 u))
    · refine br_f (by rw [hcl]; exact u) ⟨hin, hin, ?_⟩
      by_cases e : W i = V i
      · exact br_t (by rw [hcl]; exact e) (hnx (fun z => z.2 e))
      · exact br_f (by rw [hcl]; exact e) (h1 ⟨i, by omega, u, e⟩)
theorem yg_32 {post : Int32 → SY → Prop} {v f : Nat} (hw : pg_Wf K A B n) (hn : n ≤ 32) (hf : f < 2 * n) (hV : ∀ j, j < n → V j = pg_run K A B O (nI v) (-1) 0 n j) (h1 : pg_d K A B O U n v f = true → ∀ V W : Nat → Int32, post 1 (nI NL, nI IL, nI n, nI m, se, nI t, K, A, B, O, U, ST, DB, TV, TT, V, W)) (h0 : pg_d K A B O U n v f = false → ∀ V W : Nat → Int32, post 0 (nI NL, nI IL, nI n, nI m, se, nI t, K, A, B, O, U, ST, DB, TV, TT, V, W)) : ∀ (d i : Nat) (b : Nat → Int32), i + d = n → (∀ j, j < i → b j = V j) → wY_detects_32 post (nI v) (nI f) (nI NL) (nI IL) (nI n) (nI m) se (nI t) (d + 1) (nI i) K A B O U ST DB TV TT V b := by
  intro d
  induction d with
  | zero =>
    intro i b hi hb
    have g1 := pg_run_ev (K := K) (A := A) (B := B) O (nI v) (nI (f / 2)) hw hn (pg_nbit (Nat.mod_lt f (by decide : 0 < 2)))
    refine br_t (nI_le (by omega) (by omega)) (yg_run hw hn g1 (Or.inr ⟨f, by omega, rfl, rfl, rfl⟩) (fun a ha => ?_))
    dsimp only
    refine ⟨n + 1, yg_66 hn ?_ ?_ n 0 (by omega) lt_0⟩
    · intro ⟨j, hj, hu, he⟩
      exact h1 (pg_d_t ⟨j, hj, hu, by rw [← ha j hj, ← hV j hj, ← hb j (by omega)]; exact he⟩) a b
    · intro hz
      exact h0 (pg_d_f (fun ⟨j, hj, hu, he⟩ => hz ⟨j, hj, hu, by rw [hb j (by omega), hV j hj, ha j hj]; exact he⟩)) a b
  | succ d ih =>
    intro i b hi hb
    have hin : vp_in (nI i) 32 := vp_in_nI (by omega) (by decide)
    have hcl : (nI i).toNatClampNeg = i := nI_clamp (by omega)
    refine br_f (nI_ge (by omega) (by omega)) ⟨hin, hin, nm_r (e' := upd b i (V i)) (by rw [hcl]) (nm_r (nI_1 i) ?_)⟩
    refine ih (i + 1) _ (by omega) (lt_s (fun j hj => ?_) ?_)
    · rw [pk_un (by omega)]
      exact hb j hj
    · rw [pk_us]
theorem yg_det {post : Int32 → SY → Prop} {v f M : Nat} (hw : pg_Wf K A B n) (hn : n ≤ 32) (hM : (1 : Int32) <<< (nI m &&& 31) = nI M) (hM2 : M ≤ 1024) (hv : v < M) (hf : f < 2 * n) (h1 : pg_d K A B O U n v f = true → ∀ V W : Nat → Int32, post 1 (nI NL, nI IL, nI n, nI m, se, nI t, K, A, B, O, U, ST, DB, TV, TT, V, W)) (h0 : pg_d K A B O U n v f = false → ∀ V W : Nat → Int32, post 0 (nI NL, nI IL, nI n, nI m, se, nI t, K, A, B, O, U, ST, DB, TV, TT, V, W)) : wpY_detects post (nI NL, nI IL, nI n, nI m, se, nI t, K, A, B, O, U, ST, DB, TV, TT, V, W) (nI v) (nI f) := by
  unfold wpY_detects
  dsimp only
  refine yg_vecT hM hM2 hv (br_f (by decide) (pg_sr (pg_2n n) hf (by omega) ?_))
  have g0 := pg_run_ev (K := K) (A := A) (B := B) O (nI v) (-1) hw hn pg_b0
  refine yg_run hw hn g0 (Or.inl ⟨rfl, rfl⟩) (fun a ha => ?_)
  dsimp only
  exact ⟨n + 1, yg_32 hw hn hf ha h1 h0 n 0 W (by omega) lt_0⟩
theorem yg_sim_l {post : Int32 → SY → Prop} {v M : Nat} (hw : pg_Wf K A B n) (hn : n ≤ 32) (hM : (1 : Int32) <<< (nI m &&& 31) = nI M) (hM2 : M ≤ 1024) (hv : v < M) (h : ∀ V W : Nat → Int32, post (nI (pg_cnt (pg_d K A B O U n v) (2 * n))) (nI NL, nI IL, nI n, nI m, se, nI t, K, A, B, O, U, ST, DB, TV, TT, V, W)) : ∀ (d i : Nat) (V W : Nat → Int32), i + d = 2 * n → wY_simulate_14 post (nI v) (d + 1) (nI (pg_cnt (pg_d K A B O U n v) i)) (nI i) (nI NL) (nI IL) (nI n) (nI m) se (nI t) K A B O U ST DB TV TT V W := by
  intro d
  induction d with
  | zero =>
    intro i V W hi
    have e : i = 2 * n := by omega
    subst e
    exact br_t (by rw [pg_2n]; exact Int32.le_refl _) (h V W)
  | succ d ih =>
    intro i V W hi
    refine br_f (by rw [pg_2n]; exact nI_ge (by omega) (by omega)) (yg_det hw hn hM hM2 hv (by omega) (fun hd V' W' => ?_) (fun hd V' W' => ?_))
    · exact br_f (by decide) (nm_r (e' := nI (pg_cnt (pg_d K A B O U n v) (i + 1))) (by rw [pg_cnt_t hd, nI_1]) (nm_r (nI_1 i) (ih (i + 1) V' W' (by omega))))
    · have H := ih (i + 1) V' W' (by omega)
      rw [pg_cnt_f hd] at H
      exact br_t rfl (nm_r (nI_1 i) H)
end PGG

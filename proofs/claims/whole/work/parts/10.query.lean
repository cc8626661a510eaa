section PGJ
/-! evaluate, detects, simulate -/
theorem i_vc_evaluate {k : Nat} {u : SX} {v : SY} (I : i_Rel k u v) (hk : k + 4 ≤ 2050) (v1 : Int32) (v2 : Int32) : wpX_evaluate (fun r u' => wpY_evaluate (fun r' v' => r' = r ∧ i_Rel (k + 4) u' v') v v1 v2) u v1 v2 := by
  obtain ⟨NL, IL, n, m, q, t, se, K, A, B, O, U, ST, DB, TV, TT, G, F, V, W, rfl, rfl, hI⟩ := I
  have hn := pg_n32 hI
  have hw := pg_wf hI
  obtain ⟨M, hM, hM2⟩ := pg_M hI
  unfold wpX_evaluate wpY_evaluate
  dsimp only
  rcases pk_ix v1 (n := M) (by omega) with h | h | ⟨a, ha, rfl⟩
  · exact xg_vecF hM (Or.inl h) (br_t rfl (yg_vecF hM (Or.inl h) (br_t rfl ⟨rfl, pg_mk hI⟩)))
  · exact xg_vecF hM (Or.inr h) (br_t rfl (yg_vecF hM (Or.inr h) (br_t rfl ⟨rfl, pg_mk hI⟩)))
  · refine xg_vecT hM hM2 ha (br_f (by decide) ?_)
    rcases pk_ix v2 (n := n) (by omega) with h | h | ⟨b, hb, rfl⟩
    · exact xg_nodeF (Or.inl h) (br_t rfl (yg_vecT hM hM2 ha (br_f (by decide) (pg_sf (Or.inl h) ⟨rfl, pg_mk hI⟩))))
    · exact xg_nodeF (Or.inr h) (br_t rfl (yg_vecT hM hM2 ha (br_f (by decide) (pg_sf (Or.inr h) ⟨rfl, pg_mk hI⟩))))
    · have hin : vp_in (nI b) 32 := vp_in_nI (by omega) (by decide)
      have hcl : (nI b).toNatClampNeg = b := nI_clamp (by omega)
      have g0 := pg_run_ev (K := K) (A := A) (B := B) O (nI a) (-1) hw hn pg_b0
      refine xg_nodeT hn hb (br_f (by decide) (xg_fillG hw hn g0 (fun G' hG => ?_)))
      refine And.intro hin (yg_vecT hM hM2 ha (br_f (by decide) (pg_sr rfl hb (by omega) (yg_run hw hn g0 (Or.inl ⟨rfl, rfl⟩) (fun V' hV => ?_)))))
      refine And.intro hin (And.intro ?_ (pg_mk hI))
      rw [hcl]
      show V' b = G' b
      rw [hV b hb, hG b hb]
theorem i_vc_detects {k : Nat} {u : SX} {v : SY} (I : i_Rel k u v) (hk : k + 4 ≤ 2050) (v1 : Int32) (v2 : Int32) : wpX_detects (fun r u' => wpY_detects (fun r' v' => r' = r ∧ i_Rel (k + 4) u' v') v v1 v2) u v1 v2 := by
  obtain ⟨NL, IL, n, m, q, t, se, K, A, B, O, U, ST, DB, TV, TT, G, F, V, W, rfl, rfl, hI⟩ := I
  have hn := pg_n32 hI
  have hw := pg_wf hI
  obtain ⟨M, hM, hM2⟩ := pg_M hI
  unfold wpX_detects
  dsimp only
  rcases pk_ix v1 (n := M) (by omega) with h | h | ⟨a, ha, rfl⟩
  · refine xg_vecF hM (Or.inl h) (br_t rfl ?_)
    unfold wpY_detects
    exact yg_vecF hM (Or.inl h) (br_t rfl ⟨rfl, pg_mk hI⟩)
  · refine xg_vecF hM (Or.inr h) (br_t rfl ?_)
    unfold wpY_detects
    exact yg_vecF hM (Or.inr h) (br_t rfl ⟨rfl, pg_mk hI⟩)
  · refine xg_vecT hM hM2 ha (br_f (by decide) ?_)
    rcases pk_ix v2 (n := 2 * n) (by omega) with h | h | ⟨b, hb, rfl⟩
    · refine xg_faultF (Or.inl h) (br_t rfl ?_)
      unfold wpY_detects
      exact yg_vecT hM hM2 ha (br_f (by decide) (pg_sf (Or.inl h) ⟨rfl, pg_mk hI⟩))
    · refine xg_faultF (Or.inr h) (br_t rfl ?_)
      unfold wpY_detects
      exact yg_vecT hM hM2 ha (br_f (by decide) (pg_sf (Or.inr (by rw [pg_2n]; exact h)) ⟨rfl, pg_mk hI⟩))
    · refine xg_faultT hn hb (br_f (by decide) (xg_unc hw hn hb (fun hd G' F' => ?_) (fun hd G' F' => ?_)))
      · refine br_f (by decide) (yg_det hw hn hM hM2 ha hb (fun _ V' W' => ⟨rfl, pg_mk hI⟩) (fun hd' V' W' => ?_))
        rw [hd] at hd'
        exact absurd hd' (by decide)
      · refine br_t rfl (yg_det hw hn hM hM2 ha hb (fun hd' V' W' => ?_) (fun _ V' W' => ⟨rfl, pg_mk hI⟩))
        rw [hd] at hd'
        exact absurd hd' (by decide)
theorem i_vc_simulate {k : Nat} {u : SX} {v : SY} (I : i_Rel k u v) (hk : k + 4 ≤ 2050) (v1 : Int32) : wpX_simulate (fun r u' => wpY_simulate (fun r' v' => r' = r ∧ i_Rel (k + 4) u' v') v v1) u v1 := by
  obtain ⟨NL, IL, n, m, q, t, se, K, A, B, O, U, ST, DB, TV, TT, G, F, V, W, rfl, rfl, hI⟩ := I
  have hn := pg_n32 hI
  have hw := pg_wf hI
  obtain ⟨M, hM, hM2⟩ := pg_M hI
  unfold wpX_simulate wpY_simulate
  dsimp only
  rcases pk_ix v1 (n := M) (by omega) with h | h | ⟨a, ha, rfl⟩
  · exact xg_vecF hM (Or.inl h) (br_t rfl (yg_vecF hM (Or.inl h) (br_t rfl ⟨rfl, pg_mk hI⟩)))
  · exact xg_vecF hM (Or.inr h) (br_t rfl (yg_vecF hM (Or.inr h) (br_t rfl ⟨rfl, pg_mk hI⟩)))
  · refine xg_vecT hM hM2 ha (br_f (by decide) ⟨2 * n + 1, xg_sim_l hw hn (fun G' F' => ?_) (2 * n) 0 G F (by omega)⟩)
    exact yg_vecT hM hM2 ha (br_f (by decide) ⟨2 * n + 1, yg_sim_l hw hn hM hM2 ha (fun V' W' => ⟨rfl, pg_mk hI⟩) (2 * n) 0 V W (by omega)⟩)
end PGJ

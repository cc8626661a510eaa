section PGK
variable {NL IL n m q t : Nat} {se : Int32} {K A B O U ST DB TV TT G F V W : Nat → Int32}
/-! addInput, addGate, markOutput, seal -/
theorem pg_wf_in {y z : Int32} (h : pg_Wf K A B n) : pg_Wf (upd K n 8) (upd A n y) (upd B n z) (n + 1) := by
  intro i hi
  by_cases e : i = n
  · subst e
    exact ⟨⟨8, by omega, by rw [pk_us]; rfl⟩, Or.inl pk_us⟩
  · rw [pk_un e, pk_un e, pk_un e]
    exact h i (by omega)
theorem pg_wf_g {k a b : Nat} (h : pg_Wf K A B n) (hk : k ≤ 7) (ha : a < n) (hb : b < n) : pg_Wf (upd K n (nI k)) (upd A n (nI a)) (upd B n (nI b)) (n + 1) := by
  intro i hi
  by_cases e : i = n
  · subst e
    exact ⟨⟨k, by omega, pk_us⟩, Or.inr ⟨⟨a, ha, pk_us⟩, ⟨b, hb, pk_us⟩⟩⟩
  · rw [pk_un e, pk_un e, pk_un e]
    exact h i (by omega)
theorem pg_inv_n {K' A' B' : Nat → Int32} (h : pg_Inv NL IL n m q 0 0 K A B U ST DB) (hw : pg_Wf K' A' B' (n + 1)) (hn : n < NL) : pg_Inv NL IL (n + 1) m q 0 0 K' A' B' U ST DB := by
  obtain ⟨⟨h1, h2, h3, h4, h5⟩, _, hb, hz, hq, _⟩ := h
  refine ⟨⟨h1, h2, h3, by omega, h5⟩, hw, hb, fun j hj => hz j (by omega), ?_, Or.inl ⟨rfl, rfl⟩⟩
  rw [pg_cnt_f (decide_eq_false (fun z => z (hz n (Nat.le_refl _))))]
  exact hq
theorem pg_inv_m (h : pg_Inv NL IL n m q 0 0 K A B U ST DB) (hm : m < IL) : pg_Inv NL IL n (m + 1) q 0 0 K A B U ST DB := by
  obtain ⟨⟨h1, h2, h3, h4, h5⟩, hr⟩ := h
  exact ⟨⟨h1, h2, h3, h4, by omega⟩, hr⟩
theorem pg_inv_u {j : Nat} (h : pg_Inv NL IL n m q 0 0 K A B U ST DB) (hj : j < n) (h0 : U j = 0) : pg_Inv NL IL n m (q + 1) 0 0 K A B (upd U j 1) ST DB := by
  obtain ⟨hl, hw, hb, hz, hq, _⟩ := h
  refine ⟨hl, hw, fun i => ?_, fun i hi => ?_, ?_, Or.inl ⟨rfl, rfl⟩⟩
  · by_cases e : i = j
    · rw [e, pk_us]; exact pg_b1
    · rw [pk_un e]; exact hb i
  · rw [pk_un (by omega)]
    exact hz i hi
  · rw [hq]
    refine (pg_cnt_p (i := j) (decide_eq_false (fun z => z h0)) (decide_eq_true ?_) (fun i hi => ?_) n hj).symm
    · rw [pk_us]; decide
    · show decide (¬ U i = 0) = decide (¬ upd U j 1 i = 0)
      rw [pk_un hi]
theorem pg_inv_s {st db : Nat → Int32} (h : pg_Inv NL IL n m q 0 0 K A B U ST DB) (h2 : ∀ j, j < 64 → st j = 0 ∧ db j = -1) : pg_Inv NL IL n m q 0 1 K A B U st db := by
  have hn := pg_n32 h
  obtain ⟨hl, hw, hb, hz, hq, _⟩ := h
  exact ⟨hl, hw, hb, hz, hq, Or.inr ⟨rfl, Nat.zero_le _, fun f hf _ => (h2 f (by omega)).2⟩⟩
theorem i_vc_addInput {k : Nat} {u : SX} {v : SY} (I : i_Rel k u v) (hk : k + 4 ≤ 2050) : wpX_addInput (fun r u' => wpY_addInput (fun r' v' => r' = r ∧ i_Rel (k + 4) u' v') v) u := by
  obtain ⟨NL, IL, n, m, q, t, se, K, A, B, O, U, ST, DB, TV, TT, G, F, V, W, rfl, rfl, hI⟩ := I
  rcases pg_se hI with ⟨rfl, rfl⟩ | ⟨rfl, _, _⟩
  · have hl := hI.1
    refine br_t rfl ?_
    by_cases hn : n = NL
    · exact br_t (nI_le (by omega) (by omega)) (br_t rfl (br_t (by rw [hn]) ⟨rfl, pg_mk hI⟩))
    · have hne : ¬ nI n = nI NL := fun z => hn ((nI_eq (by omega) (by omega)).mp z)
      refine br_f (nI_ge (by omega) (by omega)) ?_
      by_cases hm : m = IL
      · exact br_f (nI_nlt (by omega) (by omega)) (br_t rfl (br_f hne (br_t (by rw [hm]) ⟨rfl, pg_mk hI⟩)))
      · have hme : ¬ nI m = nI IL := fun z => hm ((nI_eq (by omega) (by omega)).mp z)
        have hin : vp_in (nI n) 32 := vp_in_nI (by omega) (by decide)
        have hcl : (nI n).toNatClampNeg = n := nI_clamp (by omega)
        have hI' := pg_inv_m (pg_inv_n hI (pg_wf_in (y := 0) (z := 0) (pg_wf hI)) (by omega)) (by omega)
        refine br_t (nI_lt (by omega) (by omega)) (xg_app (by omega) ?_)
        refine And.intro hin (nm_r (e' := upd O n (nI m)) (by rw [hcl]) (nm_r (nI_1 m) ?_))
        exact br_t rfl (br_f hne (br_f hme ⟨hin, nm_r (e' := upd K n 8) (by rw [hcl]) ⟨hin, nm_r (e' := upd O n (nI m)) (by rw [hcl]) ⟨hin, nm_r (e' := upd A n 0) (by rw [hcl]) ⟨hin, nm_r (e' := upd B n 0) (by rw [hcl]) (nm_r (nI_1 n) (nm_r (nI_1 m) ⟨rfl, pg_mk hI'⟩))⟩⟩⟩⟩))
  · exact br_f (by decide) (br_f (by decide) ⟨rfl, pg_mk hI⟩)
theorem yg_103 {post : Int32 → SY → Prop} {x : Int32} (hn : n < 32) (h : post (nI n) (nI NL, nI IL, nI (n + 1), nI m, se, nI t, K, A, (upd B n x), O, U, ST, DB, TV, TT, V, W)) : wY_addGate_103 post (nI n) x (nI n) (nI NL) (nI IL) (nI n) (nI m) se (nI t) K A B O U ST DB TV TT V W := by
  have hcl : (nI n).toNatClampNeg = n := nI_clamp (by omega)
  exact And.intro (vp_in_nI hn (by decide)) (nm_r (e' := upd B n x) (by rw [hcl]) (nm_r (nI_1 n) h))
theorem yg_65 {post : Int32 → SY → Prop} {x y z : Int32} (hn : n < 32) (h : post (nI n) (nI NL, nI IL, nI (n + 1), nI m, se, nI t, (upd K n x), (upd A n y), (upd B n (if x < 2 then y else z)), O, U, ST, DB, TV, TT, V, W)) : wY_addGate_65 post x y z (nI NL) (nI IL) (nI n) (nI m) se (nI t) K A B O U ST DB TV TT V W := by
  have hin : vp_in (nI n) 32 := vp_in_nI hn (by decide)
  have hcl : (nI n).toNatClampNeg = n := nI_clamp (by omega)
  refine And.intro hin (nm_r (e' := upd K n x) (by rw [hcl]) ⟨hin, nm_r (e' := upd A n y) (by rw [hcl]) ?_⟩)
  by_cases c : x < 2
  · rw [if_pos c] at h
    exact br_t c (yg_103 hn h)
  · rw [if_neg c] at h
    exact br_f c (yg_103 hn h)
theorem i_vc_addGate {k : Nat} {u : SX} {v : SY} (I : i_Rel k u v) (hk : k + 4 ≤ 2050) (v1 : Int32) (v2 : Int32) (v3 : Int32) : wpX_addGate (fun r u' => wpY_addGate (fun r' v' => r' = r ∧ i_Rel (k + 4) u' v') v v1 v2 v3) u v1 v2 v3 := by
  obtain ⟨NL, IL, n, m, q, t, se, K, A, B, O, U, ST, DB, TV, TT, G, F, V, W, rfl, rfl, hI⟩ := I
  rcases pg_se hI with ⟨rfl, rfl⟩ | ⟨rfl, _, _⟩
  · have hl := hI.1
    have hn32 := pg_n32 hI
    refine br_t rfl ?_
    by_cases hn : n = NL
    · exact br_f (nI_nlt (by omega) (by omega)) (br_t rfl (br_t (by rw [hn]) ⟨rfl, pg_mk hI⟩))
    · have hne : ¬ nI n = nI NL := fun z => hn ((nI_eq (by omega) (by omega)).mp z)
      refine br_t (nI_lt (by omega) (by omega)) ?_
      rcases pk_ix v1 (n := 8) (by decide) with h | h | ⟨c, hc, rfl⟩
      · exact br_t h (br_t rfl (br_f hne (br_t h ⟨rfl, pg_mk hI⟩)))
      · have h0 : ¬ v1 < 0 := Int32.not_lt.mpr (Int32.le_trans (by decide : (0 : Int32) ≤ nI 8) h)
        have h7 : (7 : Int32) < v1 := Int32.lt_of_lt_of_le (by decide : (7 : Int32) < nI 8) h
        exact br_f h0 (br_t h7 (br_t rfl (br_f hne (br_f h0 (br_f (Int32.not_le.mpr h7) ⟨rfl, pg_mk hI⟩)))))
      · have h0 : ¬ nI c < 0 := nI_pos (by omega)
        have h7 : ¬ (7 : Int32) < nI c := nI_nlt (a := 7) (by omega) (by decide)
        have h7' : nI c ≤ 7 := nI_le (b := 7) (by omega) (by decide)
        refine br_f h0 (br_f h7 ?_)
        rcases pk_ix v2 (n := n) (by omega) with h | h | ⟨a, ha, rfl⟩
        · exact xg_nodeF (Or.inl h) (br_t rfl (br_t rfl (br_f hne (br_f h0 (br_t h7' (pg_sf (Or.inl h) ⟨rfl, pg_mk hI⟩))))))
        · exact xg_nodeF (Or.inr h) (br_t rfl (br_t rfl (br_f hne (br_f h0 (br_t h7' (pg_sf (Or.inr h) ⟨rfl, pg_mk hI⟩))))))
        · refine xg_nodeT hn32 ha (br_f (by decide) ?_)
          by_cases c2 : c < 2
          · have l2 : nI c < 2 := nI_lt (b := 2) c2 (by decide)
            have hI' := pg_inv_n hI (pg_wf_g (k := c) (pg_wf hI) (by omega) ha ha) (by omega)
            refine br_f (nI_ge (b := 2) c2 (by decide)) (xg_app (by omega) ?_)
            refine br_t rfl (br_f hne (br_f h0 (br_t h7' (pg_sr rfl ha (by omega) (br_t l2 (yg_65 (by omega) ?_))))))
            rw [if_pos l2]
            exact ⟨rfl, pg_mk hI'⟩
          · have l2 : ¬ nI c < 2 := nI_nlt (b := 2) (by omega) (by omega)
            refine br_t (nI_le (a := 2) (by omega) (by omega)) ?_
            rcases pk_ix v3 (n := n) (by omega) with h | h | ⟨b, hb, rfl⟩
            · exact xg_nodeF (Or.inl h) (br_t rfl (br_t rfl (br_f hne (br_f h0 (br_t h7' (pg_sr rfl ha (by omega) (br_f l2 (pg_sf (Or.inl h) ⟨rfl, pg_mk hI⟩))))))))
            · exact xg_nodeF (Or.inr h) (br_t rfl (br_t rfl (br_f hne (br_f h0 (br_t h7' (pg_sr rfl ha (by omega) (br_f l2 (pg_sf (Or.inr h) ⟨rfl, pg_mk hI⟩))))))))
            · have hI' := pg_inv_n hI (pg_wf_g (k := c) (pg_wf hI) (by omega) ha hb) (by omega)
              refine xg_nodeT hn32 hb (br_f (by decide) (xg_app (by omega) ?_))
              refine br_t rfl (br_f hne (br_f h0 (br_t h7' (pg_sr rfl ha (by omega) (br_f l2 (pg_sr rfl hb (by omega) (yg_65 (by omega) ?_)))))))
              rw [if_neg l2]
              exact ⟨rfl, pg_mk hI'⟩
  · exact br_f (by decide) (br_f (by decide) ⟨rfl, pg_mk hI⟩)
theorem i_vc_markOutput {k : Nat} {u : SX} {v : SY} (I : i_Rel k u v) (hk : k + 4 ≤ 2050) (v1 : Int32) : wpX_markOutput (fun r u' => wpY_markOutput (fun r' v' => r' = r ∧ i_Rel (k + 4) u' v') v v1) u v1 := by
  obtain ⟨NL, IL, n, m, q, t, se, K, A, B, O, U, ST, DB, TV, TT, G, F, V, W, rfl, rfl, hI⟩ := I
  rcases pg_se hI with ⟨rfl, rfl⟩ | ⟨rfl, _, _⟩
  · have hn := pg_n32 hI
    refine br_t rfl ?_
    rcases pk_ix v1 (n := n) (by omega) with h | h | ⟨j, hj, rfl⟩
    · exact xg_nodeF (Or.inl h) (br_t rfl (br_t rfl (pg_rf (Or.inl h) ⟨rfl, pg_mk hI⟩)))
    · exact xg_nodeF (Or.inr h) (br_t rfl (br_t rfl (pg_rf (Or.inr h) ⟨rfl, pg_mk hI⟩)))
    · have hin : vp_in (nI j) 32 := vp_in_nI (by omega) (by decide)
      have hcl : (nI j).toNatClampNeg = j := nI_clamp (by omega)
      refine xg_nodeT hn hj (br_f (by decide) ⟨hin, ?_⟩)
      by_cases h0 : U j = 0
      · have h0' : U (nI j).toNatClampNeg = 0 := by rw [hcl]; exact h0
        have hI' := pg_inv_u hI hj h0
        exact br_t h0' ⟨hin, nm_r (e' := upd U j 1) (by rw [hcl, pg_vb1]) (nm_r (nI_1 q) (br_t rfl (pg_rt rfl hj (by omega) ⟨hin, br_t h0' ⟨hin, nm_r (e' := upd U j 1) (by rw [hcl, pg_vb1]) ⟨rfl, pg_mk hI'⟩⟩⟩)))⟩
      · have h0' : ¬ U (nI j).toNatClampNeg = 0 := by rw [hcl]; exact h0
        exact br_f h0' (br_t rfl (pg_rt rfl hj (by omega) ⟨hin, br_f h0' ⟨rfl, pg_mk hI⟩⟩))
  · exact br_f (by decide) (br_f (by decide) ⟨rfl, pg_mk hI⟩)
theorem i_vc_seal {k : Nat} {u : SX} {v : SY} (I : i_Rel k u v) (hk : k + 4 ≤ 2050) : wpX_seal (fun r u' => wpY_seal (fun r' v' => r' = r ∧ i_Rel (k + 4) u' v') v) u := by
  obtain ⟨NL, IL, n, m, q, t, se, K, A, B, O, U, ST, DB, TV, TT, G, F, V, W, rfl, rfl, hI⟩ := I
  rcases pg_se hI with ⟨rfl, rfl⟩ | ⟨rfl, _, _⟩
  · have hn := pg_n32 hI
    have hm := pg_m10 hI
    have hq : q = pg_cnt (fun j => decide (¬ U j = 0)) n := hI.2.2.2.2.1
    have hqn : q ≤ n := by rw [hq]; exact pg_cnt_le _ _
    refine br_t rfl ?_
    by_cases m0 : m = 0
    · subst m0
      exact br_t rfl (br_t rfl (br_t rfl ⟨rfl, pg_mk hI⟩))
    · have hmz : ¬ nI m = 0 := nI_ne0 (by omega) (by omega)
      refine br_f hmz ?_
      by_cases q0 : q = 0
      · have hno : ∀ j, j < n → U j = 0 := by
          intro j hj
          by_cases e : U j = 0
          · exact e
          · have := pg_cnt_1 (p := fun j => decide (¬ U j = 0)) (i := j) (decide_eq_true e) hj
            omega
        refine br_t (by rw [q0]; rfl) (br_t rfl (br_f hmz ⟨n + 1, (yg_20 hn (fun ⟨j, hj, hu⟩ => absurd (hno j hj) hu) (fun _ => ⟨rfl, pg_mk hI⟩) n 0 (by omega)).2 lt_0⟩))
      · refine br_f (nI_ne0 (by omega) (by omega)) ⟨65, xg_seal_l 64 0 ST DB rfl (fun st db _ h2 h3 => ?_)⟩
        have h2' : ∀ j, j < 64 → st j = 0 ∧ db j = -1 := fun j hj => h2 j (Nat.zero_le _) hj
        have hI' := pg_inv_s hI h2'
        refine br_t rfl (br_f hmz ⟨n + 1, (yg_20 hn (fun _ => yg_seal_l h2' ⟨rfl, pg_mk hI'⟩ 64 0 ST DB rfl lt_0 h3) (fun z => ?_) n 0 (by omega)).2 lt_0⟩)
        refine absurd ?_ q0
        rw [hq]
        exact pg_cnt_0 n (fun j hj => decide_eq_false (fun w => w (z j hj)))
  · exact br_f (by decide) (br_f (by decide) ⟨rfl, pg_mk hI⟩)
end PGK

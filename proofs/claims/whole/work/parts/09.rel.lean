section PGI
variable {NL IL n m q t : Nat} {se : Int32} {K A B O U ST DB TV TT G F V W : Nat → Int32}
/-! the relation -/
def pg_Inv (NL IL n m q t : Nat) (se : Int32) (K A B U ST DB : Nat → Int32) : Prop :=
  (8 ≤ NL ∧ NL ≤ 32 ∧ IL ≤ 10 ∧ n ≤ NL ∧ m ≤ IL) ∧ pg_Wf K A B n ∧ (∀ j, pg_bit (U j)) ∧ (∀ j, n ≤ j → U j = 0) ∧ q = pg_cnt (fun j => decide (¬ U j = 0)) n ∧ ((se = 0 ∧ t = 0) ∨ (se = 1 ∧ t ≤ pg_done ST (2 * n) ∧ pg_Fit ST DB (2 * n)))
/-- both sides hold the same netlist, marks and tests; their scratch is free -/
def i_Rel (_ : Nat) (u : SX) (v : SY) : Prop := ∃ (NL IL n m q t : Nat) (se : Int32) (K A B O U ST DB TV TT G F V W : Nat → Int32), u = (nI NL, nI IL, nI n, nI m, nI q, se, nI t, K, A, B, O, U, ST, DB, TV, TT, G, F) ∧ v = (nI NL, nI IL, nI n, nI m, se, nI t, K, A, B, O, U, ST, DB, TV, TT, V, W) ∧ pg_Inv NL IL n m q t se K A B U ST DB
theorem pg_mk {k : Nat} (h : pg_Inv NL IL n m q t se K A B U ST DB) : i_Rel k (nI NL, nI IL, nI n, nI m, nI q, se, nI t, K, A, B, O, U, ST, DB, TV, TT, G, F) (nI NL, nI IL, nI n, nI m, se, nI t, K, A, B, O, U, ST, DB, TV, TT, V, W) :=
  ⟨NL, IL, n, m, q, t, se, K, A, B, O, U, ST, DB, TV, TT, G, F, V, W, rfl, rfl, h⟩
theorem pg_n32 (h : pg_Inv NL IL n m q t se K A B U ST DB) : n ≤ 32 := Nat.le_trans h.1.2.2.2.1 h.1.2.1
theorem pg_m10 (h : pg_Inv NL IL n m q t se K A B U ST DB) : m ≤ 10 := Nat.le_trans h.1.2.2.2.2 h.1.2.2.1
theorem pg_wf (h : pg_Inv NL IL n m q t se K A B U ST DB) : pg_Wf K A B n := h.2.1
theorem pg_ubit (h : pg_Inv NL IL n m q t se K A B U ST DB) (j : Nat) : pg_bit (U j) := h.2.2.1 j
theorem pg_se (h : pg_Inv NL IL n m q t se K A B U ST DB) : (se = 0 ∧ t = 0) ∨ (se = 1 ∧ t ≤ pg_done ST (2 * n) ∧ pg_Fit ST DB (2 * n)) := h.2.2.2.2.2
theorem pg_t64 (h : pg_Inv NL IL n m q t se K A B U ST DB) : t ≤ 64 := by
  have h1 := pg_n32 h
  rcases pg_se h with ⟨_, h2⟩ | ⟨_, h2, _⟩
  · omega
  · have h3 : pg_done ST (2 * n) ≤ 2 * n := pg_cnt_le _ _
    omega
theorem pg_M (h : pg_Inv NL IL n m q t se K A B U ST DB) : ∃ M : Nat, (1 : Int32) <<< (nI m &&& 31) = nI M ∧ M ≤ 1024 := ⟨2 ^ m, pg_sh (pg_m10 h), pg_p10 (pg_m10 h)⟩
theorem i_up {k : Nat} {u : SX} {v : SY} (h : i_Rel k u v) : i_Rel (k + 4) u v := h
theorem pg_clamp (lo hi : Nat) (hlh : lo ≤ hi) (hh : hi < 2 ^ 31) (p : Int32) : ∃ a : Nat, lo ≤ a ∧ a ≤ hi ∧ (∀ post : Int32 → Prop, post (nI a) → wpX_clamp post p (nI lo) (nI hi)) ∧ (∀ P : Int32 → Prop, P (nI a) → (nI lo ≤ p → ((p ≤ nI hi → P p) ∧ (¬ p ≤ nI hi → P (nI hi)))) ∧ (¬ nI lo ≤ p → ((nI lo ≤ nI hi → P (nI lo)) ∧ (¬ nI lo ≤ nI hi → P (nI hi))))) := by
  by_cases h1 : nI lo ≤ p
  · by_cases h2 : p ≤ nI hi
    · obtain ⟨j, hj, rfl⟩ := nI_of (x := p) (Int32.not_lt.mpr (Int32.le_trans (nI_pos' (n := lo) (by omega)) h1))
      have l1 := (nI_leI (by omega) hj).mp h1
      have l2 := (nI_leI hj hh).mp h2
      exact ⟨j, l1, l2, fun post h => br_t h1 (br_t h2 h), fun P h => br_t h1 (br_t h2 h)⟩
    · exact ⟨hi, hlh, Nat.le_refl _, fun post h => br_t h1 (br_f h2 h), fun P h => br_t h1 (br_f h2 h)⟩
  · exact ⟨lo, Nat.le_refl _, hlh, fun post h => br_f h1 h, fun P h => br_f h1 (br_t (nI_le hlh hh) h)⟩
theorem i_vc0 (k0 : Int32) (k1 : Int32) : wpX_init (fun u => wpY_init (fun v => i_Rel 2 u v) k0 k1) k0 k1 := by
  obtain ⟨a, a1, a2, aX, aY⟩ := pg_clamp 8 32 (by decide) (by decide) k0
  obtain ⟨b, b1, b2, bX, bY⟩ := pg_clamp 1 10 (by decide) (by decide) k1
  unfold wpX_init
  refine aX _ (bX _ ?_)
  refine aY (fun x3 => wY_init_112 (fun v => i_Rel 2 (nI a, nI b, 0, 0, 0, 0, 0, (fun _ => 0), (fun _ => 0), (fun _ => 0), (fun _ => 0), (fun _ => 0), (fun _ => 0), (fun _ => 0), (fun _ => 0), (fun _ => 0), (fun _ => 0), (fun _ => 0)) v) k1 x3 0 0 0 0 0 0 (fun _ => 0) (fun _ => 0) (fun _ => 0) (fun _ => 0) (fun _ => 0) (fun _ => 0) (fun _ => 0) (fun _ => 0) (fun _ => 0) (fun _ => 0) (fun _ => 0)) ?_
  refine bY (fun x4 => i_Rel 2 (nI a, nI b, 0, 0, 0, 0, 0, (fun _ => 0), (fun _ => 0), (fun _ => 0), (fun _ => 0), (fun _ => 0), (fun _ => 0), (fun _ => 0), (fun _ => 0), (fun _ => 0), (fun _ => 0), (fun _ => 0)) (nI a, x4, 0, 0, 0, 0, (fun _ => 0), (fun _ => 0), (fun _ => 0), (fun _ => 0), (fun _ => 0), (fun _ => 0), (fun _ => 0), (fun _ => 0), (fun _ => 0), (fun _ => 0), (fun _ => 0))) ?_
  exact pg_mk (n := 0) (m := 0) (q := 0) (t := 0) (se := 0) ⟨⟨a1, a2, b2, by omega, by omega⟩, fun i hi => absurd hi (by omega), fun _ => pg_b0, fun _ _ => rfl, rfl, Or.inl ⟨rfl, rfl⟩⟩
/-! the getters -/
theorem i_vc_nodeCount {k : Nat} {u : SX} {v : SY} (I : i_Rel k u v) (hk : k + 4 ≤ 2050) : wpX_nodeCount (fun r => wpY_nodeCount (fun r' => r' = r ∧ i_Rel (k + 4) u v) v) u := by
  obtain ⟨NL, IL, n, m, q, t, se, K, A, B, O, U, ST, DB, TV, TT, G, F, V, W, rfl, rfl, hI⟩ := I
  exact And.intro rfl (pg_mk hI)
theorem i_vc_testCount {k : Nat} {u : SX} {v : SY} (I : i_Rel k u v) (hk : k + 4 ≤ 2050) : wpX_testCount (fun r => wpY_testCount (fun r' => r' = r ∧ i_Rel (k + 4) u v) v) u := by
  obtain ⟨NL, IL, n, m, q, t, se, K, A, B, O, U, ST, DB, TV, TT, G, F, V, W, rfl, rfl, hI⟩ := I
  exact And.intro rfl (pg_mk hI)
theorem i_vc_nodeKind {k : Nat} {u : SX} {v : SY} (I : i_Rel k u v) (hk : k + 4 ≤ 2050) (v1 : Int32) : wpX_nodeKind (fun r => wpY_nodeKind (fun r' => r' = r ∧ i_Rel (k + 4) u v) v v1) u v1 := by
  obtain ⟨NL, IL, n, m, q, t, se, K, A, B, O, U, ST, DB, TV, TT, G, F, V, W, rfl, rfl, hI⟩ := I
  have hn := pg_n32 hI
  unfold wpX_nodeKind
  dsimp only
  rcases pk_ix v1 (n := n) (by omega) with h | h | ⟨j, hj, rfl⟩
  · exact xg_nodeF (Or.inl h) (br_t rfl (pg_sf (Or.inl h) ⟨rfl, pg_mk hI⟩))
  · exact xg_nodeF (Or.inr h) (br_t rfl (pg_sf (Or.inr h) ⟨rfl, pg_mk hI⟩))
  · have hin : vp_in (nI j) 32 := vp_in_nI (by omega) (by decide)
    exact xg_nodeT hn hj (br_f (by decide) ⟨hin, pg_sr rfl hj (by omega) ⟨hin, rfl, pg_mk hI⟩⟩)
theorem i_vc_isOutput {k : Nat} {u : SX} {v : SY} (I : i_Rel k u v) (hk : k + 4 ≤ 2050) (v1 : Int32) : wpX_isOutput (fun r => wpY_isOutput (fun r' => r' = r ∧ i_Rel (k + 4) u v) v v1) u v1 := by
  obtain ⟨NL, IL, n, m, q, t, se, K, A, B, O, U, ST, DB, TV, TT, G, F, V, W, rfl, rfl, hI⟩ := I
  have hn := pg_n32 hI
  unfold wpX_isOutput
  dsimp only
  rcases pk_ix v1 (n := n) (by omega) with h | h | ⟨j, hj, rfl⟩
  · exact xg_nodeF (Or.inl h) (br_t rfl (pg_sf (Or.inl h) ⟨rfl, pg_mk hI⟩))
  · exact xg_nodeF (Or.inr h) (br_t rfl (pg_sf (Or.inr h) ⟨rfl, pg_mk hI⟩))
  · have hin : vp_in (nI j) 32 := vp_in_nI (by omega) (by decide)
    have hb := pg_ubit hI (nI j).toNatClampNeg
    have hbn := pg_nb hb
    refine xg_nodeT hn hj (br_f (by decide) ⟨hin, br_c (fun h0 => ?_) (fun h1 => ?_)⟩)
    · exact pg_sr rfl hj (by omega) ⟨hin, hbn, h0, pg_mk hI⟩
    · exact pg_sr rfl hj (by omega) ⟨hin, hbn, hb.resolve_left h1, pg_mk hI⟩
theorem i_vc_faultStatus {k : Nat} {u : SX} {v : SY} (I : i_Rel k u v) (hk : k + 4 ≤ 2050) (v1 : Int32) : wpX_faultStatus (fun r => wpY_faultStatus (fun r' => r' = r ∧ i_Rel (k + 4) u v) v v1) u v1 := by
  obtain ⟨NL, IL, n, m, q, t, se, K, A, B, O, U, ST, DB, TV, TT, G, F, V, W, rfl, rfl, hI⟩ := I
  have hn := pg_n32 hI
  rcases pg_se hI with ⟨rfl, rfl⟩ | ⟨rfl, ht, hfit⟩
  · exact br_t rfl (br_t rfl ⟨rfl, pg_mk hI⟩)
  · refine br_f (by decide) ?_
    rcases pk_ix v1 (n := 2 * n) (by omega) with h | h | ⟨j, hj, rfl⟩
    · exact xg_faultF (Or.inl h) (br_t rfl (br_f (by decide) (pg_sf (Or.inl h) ⟨rfl, pg_mk hI⟩)))
    · exact xg_faultF (Or.inr h) (br_t rfl (br_f (by decide) (pg_sf (Or.inr (by rw [pg_2n]; exact h)) ⟨rfl, pg_mk hI⟩)))
    · have hin : vp_in (nI j) 64 := vp_in_nI (by omega) (by decide)
      exact xg_faultT hn hj (br_f (by decide) ⟨hin, br_f (by decide) (pg_sr (pg_2n n) hj (by omega) ⟨hin, rfl, pg_mk hI⟩)⟩)
theorem i_vc_detectedBy {k : Nat} {u : SX} {v : SY} (I : i_Rel k u v) (hk : k + 4 ≤ 2050) (v1 : Int32) : wpX_detectedBy (fun r => wpY_detectedBy (fun r' => r' = r ∧ i_Rel (k + 4) u v) v v1) u v1 := by
  obtain ⟨NL, IL, n, m, q, t, se, K, A, B, O, U, ST, DB, TV, TT, G, F, V, W, rfl, rfl, hI⟩ := I
  have hn := pg_n32 hI
  rcases pg_se hI with ⟨rfl, rfl⟩ | ⟨rfl, ht, hfit⟩
  · exact br_t rfl (br_t rfl ⟨rfl, pg_mk hI⟩)
  · refine br_f (by decide) ?_
    rcases pk_ix v1 (n := 2 * n) (by omega) with h | h | ⟨j, hj, rfl⟩
    · exact xg_faultF (Or.inl h) (br_t rfl (br_f (by decide) (pg_sf (Or.inl h) ⟨rfl, pg_mk hI⟩)))
    · exact xg_faultF (Or.inr h) (br_t rfl (br_f (by decide) (pg_sf (Or.inr (by rw [pg_2n]; exact h)) ⟨rfl, pg_mk hI⟩)))
    · have hin : vp_in (nI j) 64 := vp_in_nI (by omega) (by decide)
      have hcl : (nI j).toNatClampNeg = j := nI_clamp (by omega)
      refine xg_faultT hn hj (br_f (by decide) ⟨hin, br_f (by decide) (pg_sr (pg_2n n) hj (by omega) ⟨hin, br_c (fun _ => ⟨hin, rfl, pg_mk hI⟩) (fun h1 => ⟨?_, pg_mk hI⟩)⟩)⟩)
      rw [hcl] at h1 ⊢
      exact (hfit j hj h1).symm
theorem i_vc_testVector {k : Nat} {u : SX} {v : SY} (I : i_Rel k u v) (hk : k + 4 ≤ 2050) (v1 : Int32) : wpX_testVector (fun r => wpY_testVector (fun r' => r' = r ∧ i_Rel (k + 4) u v) v v1) u v1 := by
  obtain ⟨NL, IL, n, m, q, t, se, K, A, B, O, U, ST, DB, TV, TT, G, F, V, W, rfl, rfl, hI⟩ := I
  have ht := pg_t64 hI
  unfold wpX_testVector
  dsimp only
  rcases pk_ix v1 (n := t) (by omega) with h | h | ⟨j, hj, rfl⟩
  · exact xg_testF (Or.inl h) (br_t rfl (pg_sf (Or.inl h) ⟨rfl, pg_mk hI⟩))
  · exact xg_testF (Or.inr h) (br_t rfl (pg_sf (Or.inr h) ⟨rfl, pg_mk hI⟩))
  · have hin : vp_in (nI j) 64 := vp_in_nI (by omega) (by decide)
    exact xg_testT ht hj (br_f (by decide) ⟨hin, pg_sr rfl hj (by omega) ⟨hin, rfl, pg_mk hI⟩⟩)
theorem i_vc_testTarget {k : Nat} {u : SX} {v : SY} (I : i_Rel k u v) (hk : k + 4 ≤ 2050) (v1 : Int32) : wpX_testTarget (fun r => wpY_testTarget (fun r' => r' = r ∧ i_Rel (k + 4) u v) v v1) u v1 := by
  obtain ⟨NL, IL, n, m, q, t, se, K, A, B, O, U, ST, DB, TV, TT, G, F, V, W, rfl, rfl, hI⟩ := I
  have ht := pg_t64 hI
  unfold wpX_testTarget
  dsimp only
  rcases pk_ix v1 (n := t) (by omega) with h | h | ⟨j, hj, rfl⟩
  · exact xg_testF (Or.inl h) (br_t rfl (pg_sf (Or.inl h) ⟨rfl, pg_mk hI⟩))
  · exact xg_testF (Or.inr h) (br_t rfl (pg_sf (Or.inr h) ⟨rfl, pg_mk hI⟩))
  · have hin : vp_in (nI j) 64 := vp_in_nI (by omega) (by decide)
    exact xg_testT ht hj (br_f (by decide) ⟨hin, pg_sr rfl hj (by omega) ⟨hin, rfl, pg_mk hI⟩⟩)
end PGI

section PGD
variable {NL IL n m q t : Nat} {se : Int32} {K A B O U ST DB TV TT G F V W : Nat → Int32}
/-! gates at each kind -/
theorem pg_g0 (a b : Int32) : pg_gate (nI 0) a b = a := by
  unfold pg_gate
  rw [if_pos (by decide)]
theorem pg_g1 (a b : Int32) : pg_gate (nI 1) a b = 1 - a := by
  unfold pg_gate
  rw [if_neg (by decide), if_pos (by decide)]
theorem pg_g2 (a b : Int32) : pg_gate (nI 2) a b = a &&& b := by
  unfold pg_gate
  rw [if_neg (by decide), if_neg (by decide), if_pos (by decide)]
theorem pg_g3 (a b : Int32) : pg_gate (nI 3) a b = 1 - (a &&& b) := by
  unfold pg_gate
  rw [if_neg (by decide), if_neg (by decide), if_neg (by decide), if_pos (by decide)]
theorem pg_g4 (a b : Int32) : pg_gate (nI 4) a b = a ||| b := by
  unfold pg_gate
  rw [if_neg (by decide), if_neg (by decide), if_neg (by decide), if_neg (by decide), if_pos (by decide)]
theorem pg_g5 (a b : Int32) : pg_gate (nI 5) a b = 1 - (a ||| b) := by
  unfold pg_gate
  rw [if_neg (by decide), if_neg (by decide), if_neg (by decide), if_neg (by decide), if_neg (by decide), if_pos (by decide)]
theorem pg_g6 (a b : Int32) : pg_gate (nI 6) a b = a ^^^ b := by
  unfold pg_gate
  rw [if_neg (by decide), if_neg (by decide), if_neg (by decide), if_neg (by decide), if_neg (by decide), if_neg (by decide), if_pos (by decide)]
theorem pg_g7 (a b : Int32) : pg_gate (nI 7) a b = 1 - (a ^^^ b) := by
  unfold pg_gate
  rw [if_neg (by decide), if_neg (by decide), if_neg (by decide), if_neg (by decide), if_neg (by decide), if_neg (by decide), if_neg (by decide)]
theorem pg_k8 {k : Nat} (h : k ≤ 7) : k = 0 ∨ k = 1 ∨ k = 2 ∨ k = 3 ∨ k = 4 ∨ k = 5 ∨ k = 6 ∨ k = 7 := by omega
theorem xg_gate {post : Int32 → Prop} {k : Nat} {a b : Int32} (hk : k ≤ 7) (h : post (pg_gate (nI k) a b)) : wpX_gateValue post (nI k) a b := by
  rcases pg_k8 hk with rfl | rfl | rfl | rfl | rfl | rfl | rfl | rfl
  · rw [pg_g0] at h
    exact br_f (by decide) (br_f (by decide) (br_t (by decide) h))
  · rw [pg_g1] at h
    exact br_f (by decide) (br_f (by decide) (br_f (by decide) (br_t (by decide) h)))
  · rw [pg_g2] at h
    exact br_f (by decide) (br_f (by decide) (br_f (by decide) (br_f (by decide) (br_t (by decide) h))))
  · rw [pg_g3] at h
    exact br_f (by decide) (br_f (by decide) (br_f (by decide) (br_f (by decide) (br_f (by decide) (br_t (by decide) h)))))
  · rw [pg_g4] at h
    exact br_f (by decide) (br_f (by decide) (br_f (by decide) (br_f (by decide) (br_f (by decide) (br_f (by decide) (br_t (by decide) h))))))
  · rw [pg_g5] at h
    exact br_f (by decide) (br_f (by decide) (br_f (by decide) (br_f (by decide) (br_f (by decide) (br_f (by decide) (br_f (by decide) (br_t (by decide) h)))))))
  · rw [pg_g6] at h
    exact br_f (by decide) (br_f (by decide) (br_f (by decide) (br_f (by decide) (br_f (by decide) (br_f (by decide) (br_f (by decide) (br_f (by decide) (br_t (by decide) h))))))))
  · rw [pg_g7] at h
    exact br_f (by decide) (br_t (by decide) h)
/-! ranges -/
theorem pg_rf {e p : Int32} {P Q : Prop} (h : p < 0 ∨ e ≤ p) (a : P) : (p < 0 → P) ∧ (¬ p < 0 → ((e ≤ p → P) ∧ (¬ e ≤ p → Q))) :=
  ⟨fun _ => a, fun h0 => ⟨fun _ => a, fun h1 => absurd (h.resolve_left h0) h1⟩⟩
theorem pg_rt {a j : Nat} {e : Int32} {P Q : Prop} (he : e = nI a) (hj : j < a) (ha : a < 2 ^ 31) (b : Q) : (nI j < 0 → P) ∧ (¬ nI j < 0 → ((e ≤ nI j → P) ∧ (¬ e ≤ nI j → Q))) := by
  subst he
  exact br_f (nI_pos (by omega)) (br_f (nI_ge hj ha) b)
theorem pg_sf {e p : Int32} {P Q : Prop} (h : p < 0 ∨ e ≤ p) (a : P) : (p < 0 → P) ∧ (¬ p < 0 → ((p < e → Q) ∧ (¬ p < e → P))) :=
  ⟨fun _ => a, fun h0 => ⟨fun h1 => absurd (h.resolve_left h0) (Int32.not_le.mpr h1), fun _ => a⟩⟩
theorem pg_sr {a j : Nat} {e : Int32} {P Q : Prop} (he : e = nI a) (hj : j < a) (ha : a < 2 ^ 31) (b : Q) : (nI j < 0 → P) ∧ (¬ nI j < 0 → ((nI j < e → Q) ∧ (¬ nI j < e → P))) := by
  subst he
  exact br_f (nI_pos (by omega)) (br_t (nI_lt hj ha) b)
theorem pg_2n (n : Nat) : (2 : Int32) * nI n = nI (2 * n) := pk_mul 2 n
theorem xg_nodeF {post : Int32 → Prop} {x : Int32} (h : x < 0 ∨ nI n ≤ x) (a : post 0) : wpX_isNode post (nI NL, nI IL, nI n, nI m, nI q, se, nI t, K, A, B, O, U, ST, DB, TV, TT, G, F) x := pg_rf h a
theorem xg_nodeT {post : Int32 → Prop} {j : Nat} (hn : n ≤ 32) (hj : j < n) (a : post 1) : wpX_isNode post (nI NL, nI IL, nI n, nI m, nI q, se, nI t, K, A, B, O, U, ST, DB, TV, TT, G, F) (nI j) := pg_rt rfl hj (by omega) a
theorem xg_faultF {post : Int32 → Prop} {x : Int32} (h : x < 0 ∨ nI (2 * n) ≤ x) (a : post 0) : wpX_isFault post (nI NL, nI IL, nI n, nI m, nI q, se, nI t, K, A, B, O, U, ST, DB, TV, TT, G, F) x := pg_rf (by rw [pg_2n]; exact h) a
theorem xg_faultT {post : Int32 → Prop} {j : Nat} (hn : n ≤ 32) (hj : j < 2 * n) (a : post 1) : wpX_isFault post (nI NL, nI IL, nI n, nI m, nI q, se, nI t, K, A, B, O, U, ST, DB, TV, TT, G, F) (nI j) := pg_rt (pg_2n n) hj (by omega) a
theorem xg_testF {post : Int32 → Prop} {x : Int32} (h : x < 0 ∨ nI t ≤ x) (a : post 0) : wpX_isTest post (nI NL, nI IL, nI n, nI m, nI q, se, nI t, K, A, B, O, U, ST, DB, TV, TT, G, F) x := pg_rf h a
theorem xg_testT {post : Int32 → Prop} {j : Nat} (ht : t ≤ 64) (hj : j < t) (a : post 1) : wpX_isTest post (nI NL, nI IL, nI n, nI m, nI q, se, nI t, K, A, B, O, U, ST, DB, TV, TT, G, F) (nI j) := pg_rt rfl hj (by omega) a
theorem xg_vecF {post : Int32 → Prop} {x : Int32} {M : Nat} (hM : (1 : Int32) <<< (nI m &&& 31) = nI M) (h : x < 0 ∨ nI M ≤ x) (a : post 0) : wpX_isVector post (nI NL, nI IL, nI n, nI m, nI q, se, nI t, K, A, B, O, U, ST, DB, TV, TT, G, F) x := pg_rf (by rw [hM]; exact h) a
theorem xg_vecT {post : Int32 → Prop} {j M : Nat} (hM : (1 : Int32) <<< (nI m &&& 31) = nI M) (hM2 : M ≤ 1024) (hj : j < M) (a : post 1) : wpX_isVector post (nI NL, nI IL, nI n, nI m, nI q, se, nI t, K, A, B, O, U, ST, DB, TV, TT, G, F) (nI j) := pg_rt hM hj (by omega) a
theorem yg_vecF {post : Int32 → Prop} {x : Int32} {M : Nat} (hM : (1 : Int32) <<< (nI m &&& 31) = nI M) (h : x < 0 ∨ nI M ≤ x) (a : post 0) : wpY_inRange post (nI NL, nI IL, nI n, nI m, se, nI t, K, A, B, O, U, ST, DB, TV, TT, V, W) x := pg_rf (by rw [hM]; exact h) a
theorem yg_vecT {post : Int32 → Prop} {j M : Nat} (hM : (1 : Int32) <<< (nI m &&& 31) = nI M) (hM2 : M ≤ 1024) (hj : j < M) (a : post 1) : wpY_inRange post (nI NL, nI IL, nI n, nI m, se, nI t, K, A, B, O, U, ST, DB, TV, TT, V, W) (nI j) := pg_rt hM hj (by omega) a
theorem xg_app {post : Int32 → SX → Prop} {x y z : Int32} (hn : n < 32) (h : post (nI n) (nI NL, nI IL, nI (n + 1), nI m, nI q, se, nI t, (upd K n x), (upd A n y), (upd B n z), O, U, ST, DB, TV, TT, G, F)) : wpX_appendNode post (nI NL, nI IL, nI n, nI m, nI q, se, nI t, K, A, B, O, U, ST, DB, TV, TT, G, F) x y z := by
  have hin : vp_in (nI n) 32 := vp_in_nI hn (by decide)
  have hcl : (nI n).toNatClampNeg = n := nI_clamp (by omega)
  exact ⟨hin, nm_r (e' := upd K n x) (by rw [hcl]) ⟨hin, nm_r (e' := upd A n y) (by rw [hcl]) ⟨hin, nm_r (e' := upd B n z) (by rw [hcl]) (nm_r (nI_1 n) h)⟩⟩⟩
end PGD

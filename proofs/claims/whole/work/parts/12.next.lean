section PGL
variable {NL IL n m q t : Nat} {se : Int32} {K A B O U ST DB TV TT G F V W : Nat → Int32}
/-! nextTest -/
theorem pg_inv_2 {f : Nat} (h : pg_Inv NL IL n m q t 1 K A B U ST DB) (h0 : ST f = 0) : pg_Inv NL IL n m q t 1 K A B U (upd ST f 2) DB := by
  obtain ⟨hl, hw, hb, hz, hq, hs⟩ := h
  rcases hs with ⟨h1, _⟩ | ⟨_, ht, hfit⟩
  · exact absurd h1 (by decide)
  · exact ⟨hl, hw, hb, hz, hq, Or.inr ⟨rfl, Nat.le_trans ht pg_done_2, pg_fit_2 hfit h0⟩⟩
theorem pg_inv_t {f : Nat} {dt : Nat → Bool} {tt : Int32} (h : pg_Inv NL IL n m q t 1 K A B U ST DB) (h0 : ST f = 0) (hd : dt f = true) (hf : f < 2 * n) : pg_Inv NL IL n m q (t + 1) 1 K A B U (pg_st ST dt (2 * n)) (pg_db ST DB dt tt (2 * n)) := by
  obtain ⟨hl, hw, hb, hz, hq, hs⟩ := h
  rcases hs with ⟨h1, _⟩ | ⟨_, ht, hfit⟩
  · exact absurd h1 (by decide)
  · have hlt := pg_done_s (i := 2 * n) h0 hd hf
    exact ⟨hl, hw, hb, hz, hq, Or.inr ⟨rfl, by omega, pg_fit_s hfit⟩⟩
theorem i_vc_nextTest {k : Nat} {u : SX} {v : SY} (I : i_Rel k u v) (hk : k + 4 ≤ 2050) : wpX_nextTest (fun r u' => wpY_nextTest (fun r' v' => r' = r ∧ i_Rel (k + 4) u' v') v) u := by
  obtain ⟨NL, IL, n, m, q, t, se, K, A, B, O, U, ST, DB, TV, TT, G, F, V, W, rfl, rfl, hI⟩ := I
  have hn := pg_n32 hI
  have hw := pg_wf hI
  obtain ⟨M, hM, hM2⟩ := pg_M hI
  rcases pg_se hI with ⟨rfl, rfl⟩ | ⟨rfl, ht, _⟩
  · exact br_t rfl (br_t rfl ⟨rfl, pg_mk hI⟩)
  · refine br_f (by decide) ?_
    by_cases hz : ∃ f, f < 2 * n ∧ ST f = 0
    · have t64 : t < 64 := by
        obtain ⟨f, hf, h0⟩ := hz
        have := pg_done_x h0 hf
        omega
      refine br_t (nI_lt (b := 64) t64 (by decide)) (xg_luf hn (fun f hf h0 hl => ?_) (fun hno => ?_))
      · refine br_f (pg_n1 (by omega)) (xg_ldv hw hn hf hM hM2 (fun v hv hd hlv G' F' => ?_) (fun hlv G' F' => ?_))
        · refine br_f (pg_n1 (by omega)) (xg_rec hw hn t64 (fun G2 F2 => ?_))
          exact br_f (by decide) ⟨2 * n + 1, yg_14b hn hf hM h0 hl (yg_64b hw hn hM hM2 hv hf t64 hd hlv (fun V' W' => ⟨rfl, pg_mk (pg_inv_t hI h0 hd hf)⟩) M 0 V W (by omega) (by omega)) (2 * n) 0 (by omega) (by omega)⟩
        · have hcl : (nI f).toNatClampNeg = f := nI_clamp (by omega)
          refine br_t rfl ⟨vp_in_nI (by omega) (by decide), nm_r (e' := upd ST f 2) (by rw [hcl]) ?_⟩
          exact br_f (by decide) ⟨2 * n + 1, yg_14b hn hf hM h0 hl (yg_64n hw hn hM hM2 hf hlv (fun V' W' => ⟨rfl, pg_mk (pg_inv_2 hI h0)⟩) M 0 V W (by omega)) (2 * n) 0 (by omega) (by omega)⟩
      · obtain ⟨f, hf, h0⟩ := hz
        exact absurd h0 (hno f hf)
    · have hno : ∀ j, j < 2 * n → ¬ ST j = 0 := fun j hj h0 => hz ⟨j, hj, h0⟩
      refine br_c (fun _ => xg_luf hn (fun f hf h0 _ => absurd h0 (hno f hf)) (fun _ => br_t rfl ?_)) (fun _ => ?_)
      · exact br_f (by decide) ⟨2 * n + 1, yg_14n hn hno ⟨rfl, pg_mk hI⟩ (2 * n) 0 (by omega)⟩
      · exact br_f (by decide) ⟨2 * n + 1, yg_14n hn hno ⟨rfl, pg_mk hI⟩ (2 * n) 0 (by omega)⟩
end PGL

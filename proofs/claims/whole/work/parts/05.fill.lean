section PGE
variable {NL IL n m q t : Nat} {se : Int32} {K A B O U ST DB TV TT G F : Nat → Int32}
/-! the component's evaluation, in both its prints -/
theorem xg_fillG_l {post : SX → Prop} {v s sv : Int32} {g : Nat → Int32} (hw : pg_Wf K A B n) (hn : n ≤ 32) (hg : pg_Ev K A B O v s sv n g) (hp : ∀ a : Nat → Int32, (∀ j, j < n → a j = g j) → post (nI NL, nI IL, nI n, nI m, nI q, se, nI t, K, A, B, O, U, ST, DB, TV, TT, a, F)) : ∀ (d i : Nat) (a : Nat → Int32), i + d = n → (∀ j, j < i → a j = g j) → wX_fillValues__goodValues_3 post v s sv (nI NL) (nI IL) (nI n) (nI m) (nI q) se (nI t) (d + 1) (nI i) K A B O U ST DB TV TT a F := by
  intro d
  induction d with
  | zero =>
    intro i a hi ha
    exact br_t (nI_le (by omega) (by omega)) (hp a (fun j hj => ha j (by omega)))
  | succ d ih =>
    intro i a hi ha
    have hin : vp_in (nI i) 32 := vp_in_nI (by omega) (by decide)
    have hcl : (nI i).toNatClampNeg = i := nI_clamp (by omega)
    have hup : ∀ x, x = g i → ∀ a', a' = upd a (nI i).toNatClampNeg x → ∀ y, y = nI i + 1 → wX_fillValues__goodValues_3 post v s sv (nI NL) (nI IL) (nI n) (nI m) (nI q) se (nI t) (d + 1) y K A B O U ST DB TV TT a' F := by
      intro x ex a' ea y ey
      rw [ey, nI_1]
      refine ih (i + 1) a' (by omega) (lt_s (fun j hj => ?_) ?_)
      · rw [ea, hcl, pk_un (by omega)]
        exact ha j hj
      · rw [ea, hcl, pk_us]
        exact ex
    have hgi := (hg i (by omega)).1
    unfold pg_step at hgi
    refine br_f (nI_ge (by omega) (by omega)) ?_
    by_cases h1 : nI i = s
    · rw [if_pos h1] at hgi
      exact br_t h1 ⟨hin, hup sv hgi.symm⟩
    · rw [if_neg h1] at hgi
      refine br_f h1 ⟨hin, ?_⟩
      by_cases h2 : K i = 8
      · rw [if_pos h2] at hgi
        refine br_t (by rw [hcl]; exact h2) ⟨hin, hin, hup _ ?_⟩
        rw [hcl]
        exact hgi.symm
      · rw [if_neg h2] at hgi
        obtain ⟨⟨k, hk, ek⟩, h3⟩ := hw i (by omega)
        rcases h3 with h3 | ⟨⟨a1, ha1, ea1⟩, ⟨b1, hb1, eb1⟩⟩
        · exact absurd h3 h2
        · have hk7 : k ≤ 7 := by
            by_cases e8 : k = 8
            · exact absurd (by rw [ek, e8]; rfl) h2
            · omega
          rw [ek, ea1, eb1, nI_clamp (by omega), nI_clamp (by omega)] at hgi
          have eK : K (nI i).toNatClampNeg = nI k := by rw [hcl]; exact ek
          have eA : A (nI i).toNatClampNeg = nI a1 := by rw [hcl]; exact ea1
          have eB : B (nI i).toNatClampNeg = nI b1 := by rw [hcl]; exact eb1
          have va : a (nI a1).toNatClampNeg = g a1 := by rw [nI_clamp (by omega)]; exact ha a1 ha1
          have vb : a (nI b1).toNatClampNeg = g b1 := by rw [nI_clamp (by omega)]; exact ha b1 hb1
          refine br_f (by rw [hcl]; exact h2) ⟨hin, by rw [eA]; exact vp_in_nI (by omega) (by decide), nm_r (e' := g a1) (by rw [eA]; exact va) ⟨hin, by rw [eB]; exact vp_in_nI (by omega) (by decide), nm_r (e' := g b1) (by rw [eB]; exact vb) ⟨hin, ?_⟩⟩⟩
          rw [eK]
          exact xg_gate hk7 ⟨hin, hup _ hgi.symm⟩
theorem xg_fillG {post : SX → Prop} {v s sv : Int32} {g : Nat → Int32} (hw : pg_Wf K A B n) (hn : n ≤ 32) (hg : pg_Ev K A B O v s sv n g) (hp : ∀ a : Nat → Int32, (∀ j, j < n → a j = g j) → post (nI NL, nI IL, nI n, nI m, nI q, se, nI t, K, A, B, O, U, ST, DB, TV, TT, a, F)) : wpX_fillValues__goodValues post (nI NL, nI IL, nI n, nI m, nI q, se, nI t, K, A, B, O, U, ST, DB, TV, TT, G, F) v s sv :=
  ⟨n + 1, xg_fillG_l hw hn hg hp n 0 G (by omega) lt_0⟩
theorem xg_fillF_l {post : SX → Prop} {v s sv : Int32} {g : Nat → Int32} (hw : pg_Wf K A B n) (hn : n ≤ 32) (hg : pg_Ev K A B O v s sv n g) (hp : ∀ a : Nat → Int32, (∀ j, j < n → a j = g j) → post (nI NL, nI IL, nI n, nI m, nI q, se, nI t, K, A, B, O, U, ST, DB, TV, TT, G, a)) : ∀ (d i : Nat) (a : Nat → Int32), i + d = n → (∀ j, j < i → a j = g j) → wX_fillValues__faultyValues_3 post v s sv (nI NL) (nI IL) (nI n) (nI m) (nI q) se (nI t) (d + 1) (nI i) K A B O U ST DB TV TT G a := by
  intro d
  induction d with
  | zero =>
    intro i a hi ha
    exact br_t (nI_le (by omega) (by omega)) (hp a (fun j hj => ha j (by omega)))
  | succ d ih =>
    intro i a hi ha
    have hin : vp_in (nI i) 32 := vp_in_nI (by omega) (by decide)
    have hcl : (nI i).toNatClampNeg = i := nI_clamp (by omega)
    have hup : ∀ x, x = g i → ∀ a', a' = upd a (nI i).toNatClampNeg x → ∀ y, y = nI i + 1 → wX_fillValues__faultyValues_3 post v s sv (nI NL) (nI IL) (nI n) (nI m) (nI q) se (nI t) (d + 1) y K A B O U ST DB TV TT G a' := by
      intro x ex a' ea y ey
      rw [ey, nI_1]
      refine ih (i + 1) a' (by omega) (lt_s (fun j hj => ?_) ?_)
      · rw [ea, hcl, pk_un (by omega)]
        exact ha j hj
      · rw [ea, hcl, pk_us]
        exact ex
    have hgi := (hg i (by omega)).1
    unfold pg_step at hgi
    refine br_f (nI_ge (by omega) (by omega)) ?_
    by_cases h1 : nI i = s
    · rw [if_pos h1] at hgi
      exact br_t h1 ⟨hin, hup sv hgi.symm⟩
    · rw [if_neg h1] at hgi
      refine br_f h1 ⟨hin, ?_⟩
      by_cases h2 : K i = 8
      · rw [if_pos h2] at hgi
        refine br_t (by rw [hcl]; exact h2) ⟨hin, hin, hup _ ?_⟩
        rw [hcl]
        exact hgi.symm
      · rw [if_neg h2] at hgi
        obtain ⟨⟨k, hk, ek⟩, h3⟩ := hw i (by omega)
        rcases h3 with h3 | ⟨⟨a1, ha1, ea1⟩, ⟨b1, hb1, eb1⟩⟩
        · exact absurd h3 h2
        · have hk7 : k ≤ 7 := by
            by_cases e8 : k = 8
            · exact absurd (by rw [ek, e8]; rfl) h2
            · omega
          rw [ek, ea1, eb1, nI_clamp (by omega), nI_clamp (by omega)] at hgi
          have eK : K (nI i).toNatClampNeg = nI k := by rw [hcl]; exact ek
          have eA : A (nI i).toNatClampNeg = nI a1 := by rw [hcl]; exact ea1
          have eB : B (nI i).toNatClampNeg = nI b1 := by rw [hcl]; exact eb1
          have va : a (nI a1).toNatClampNeg = g a1 := by rw [nI_clamp (by omega)]; exact ha a1 ha1
          have vb : a (nI b1).toNatClampNeg = g b1 := by rw [nI_clamp (by omega)]; exact ha b1 hb1
          refine br_f (by rw [hcl]; exact h2) ⟨hin, by rw [eA]; exact vp_in_nI (by omega) (by decide), nm_r (e' := g a1) (by rw [eA]; exact va) ⟨hin, by rw [eB]; exact vp_in_nI (by omega) (by decide), nm_r (e' := g b1) (by rw [eB]; exact vb) ⟨hin, ?_⟩⟩⟩
          rw [eK]
          exact xg_gate hk7 ⟨hin, hup _ hgi.symm⟩
theorem xg_fillF {post : SX → Prop} {v s sv : Int32} {g : Nat → Int32} (hw : pg_Wf K A B n) (hn : n ≤ 32) (hg : pg_Ev K A B O v s sv n g) (hp : ∀ a : Nat → Int32, (∀ j, j < n → a j = g j) → post (nI NL, nI IL, nI n, nI m, nI q, se, nI t, K, A, B, O, U, ST, DB, TV, TT, G, a)) : wpX_fillValues__faultyValues post (nI NL, nI IL, nI n, nI m, nI q, se, nI t, K, A, B, O, U, ST, DB, TV, TT, G, F) v s sv :=
  ⟨n + 1, xg_fillF_l hw hn hg hp n 0 F (by omega) lt_0⟩
end PGE

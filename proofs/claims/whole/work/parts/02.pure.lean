section PGB
/-! bits, gates, the evaluation of a netlist as a pure run -/
def pg_bit (x : Int32) : Prop := x = 0 ∨ x = 1
theorem pg_b0 : pg_bit 0 := Or.inl rfl
theorem pg_b1 : pg_bit 1 := Or.inr rfl
theorem pg_nb {x : Int32} (h : pg_bit x) : narrow .boolean (.int x) = .int x := by
  rcases h with rfl | rfl <;> rfl
theorem pg_vb0 : vp_nar .boolean 0 = 0 := by decide
theorem pg_vb1 : vp_nar .boolean 1 = 1 := by decide
theorem pg_a1 {x : Int32} (h : pg_bit x) : x &&& 1 = x := by
  rcases h with rfl | rfl <;> decide
theorem pg_and1 (x : Int32) : pg_bit (x &&& 1) := by
  rw [pk_and x 1 (by decide)]
  have h : x.toBitVec.toNat % 2 ^ 1 < 2 := Nat.mod_lt _ (by decide)
  generalize x.toBitVec.toNat % 2 ^ 1 = y at h
  rcases (by omega : y = 0 ∨ y = 1) with rfl | rfl
  · exact Or.inl rfl
  · exact Or.inr rfl
theorem pg_nbit {a : Nat} (h : a < 2) : pg_bit (nI a) := by
  rcases (by omega : a = 0 ∨ a = 1) with rfl | rfl
  · exact Or.inl rfl
  · exact Or.inr rfl
theorem pg_n1 {a : Nat} (h : a < 2 ^ 31) : ¬ nI a = -1 := by
  intro e
  have := nI_pos (n := a) h
  rw [e] at this
  exact this (by decide)
def pg_gate (k a b : Int32) : Int32 :=
  if k = 0 then a else if k = 1 then 1 - a else if k = 2 then a &&& b else if k = 3 then 1 - (a &&& b)
  else if k = 4 then a ||| b else if k = 5 then 1 - (a ||| b) else if k = 6 then a ^^^ b else 1 - (a ^^^ b)
theorem pg_gate_bit (k : Int32) {a b : Int32} (ha : pg_bit a) (hb : pg_bit b) : pg_bit (pg_gate k a b) := by
  unfold pg_gate
  rcases ha with rfl | rfl <;> rcases hb with rfl | rfl <;> (repeat' split) <;> first | exact Or.inl (by decide) | exact Or.inr (by decide)
def pg_step (K A B O : Nat → Int32) (v s sv : Int32) (g : Nat → Int32) (i : Nat) : Int32 :=
  if nI i = s then sv else if K i = 8 then (v >>> (O i &&& 31)) &&& 1 else pg_gate (K i) (g (A i).toNatClampNeg) (g (B i).toNatClampNeg)
def pg_run (K A B O : Nat → Int32) (v s sv : Int32) : Nat → Nat → Int32
  | 0 => fun _ => 0
  | n + 1 => upd (pg_run K A B O v s sv n) n (pg_step K A B O v s sv (pg_run K A B O v s sv n) n)
def pg_Wf (K A B : Nat → Int32) (n : Nat) : Prop := ∀ i, i < n → (∃ k : Nat, k ≤ 8 ∧ K i = nI k) ∧ (K i = 8 ∨ ((∃ a : Nat, a < i ∧ A i = nI a) ∧ (∃ b : Nat, b < i ∧ B i = nI b)))
def pg_Ev (K A B O : Nat → Int32) (v s sv : Int32) (n : Nat) (g : Nat → Int32) : Prop := ∀ i, i < n → g i = pg_step K A B O v s sv g i ∧ pg_bit (g i)
theorem pg_run_hi (K A B O : Nat → Int32) (v s sv : Int32) {i j : Nat} (h : j < i) : ∀ d, pg_run K A B O v s sv (i + d) j = pg_run K A B O v s sv i j := by
  intro d
  induction d with
  | zero => rfl
  | succ d ih =>
    show upd (pg_run K A B O v s sv (i + d)) (i + d) _ j = _
    rw [pk_un (by omega), ih]
theorem pg_step_c {K A B O : Nat → Int32} {v s sv : Int32} {g g' : Nat → Int32} {n i : Nat} (hw : pg_Wf K A B n) (hi : i < n) (hn : n ≤ 32) (h : ∀ j, j < i → g j = g' j) : pg_step K A B O v s sv g i = pg_step K A B O v s sv g' i := by
  unfold pg_step
  by_cases h1 : nI i = s
  · rw [if_pos h1, if_pos h1]
  · rw [if_neg h1, if_neg h1]
    by_cases h2 : K i = 8
    · rw [if_pos h2, if_pos h2]
    · rw [if_neg h2, if_neg h2]
      rcases (hw i hi).2 with h3 | ⟨⟨a, ha, ea⟩, ⟨b, hb, eb⟩⟩
      · exact absurd h3 h2
      · rw [ea, eb, nI_clamp (by omega), nI_clamp (by omega), h a ha, h b hb]
theorem pg_step_b {K A B O : Nat → Int32} {v s sv : Int32} {g : Nat → Int32} {n i : Nat} (hw : pg_Wf K A B n) (hi : i < n) (hn : n ≤ 32) (hs : pg_bit sv) (h : ∀ j, j < i → pg_bit (g j)) : pg_bit (pg_step K A B O v s sv g i) := by
  unfold pg_step
  by_cases h1 : nI i = s
  · rw [if_pos h1]; exact hs
  · rw [if_neg h1]
    by_cases h2 : K i = 8
    · rw [if_pos h2]; exact pg_and1 _
    · rw [if_neg h2]
      rcases (hw i hi).2 with h3 | ⟨⟨a, ha, ea⟩, ⟨b, hb, eb⟩⟩
      · exact absurd h3 h2
      · rw [ea, eb, nI_clamp (by omega), nI_clamp (by omega)]
        exact pg_gate_bit _ (h a ha) (h b hb)
theorem pg_run_ev {K A B : Nat → Int32} (O : Nat → Int32) (v s : Int32) {sv : Int32} {n : Nat} (hw : pg_Wf K A B n) (hn : n ≤ 32) (hs : pg_bit sv) : pg_Ev K A B O v s sv n (pg_run K A B O v s sv n) := by
  have e : ∀ i, i < n → pg_run K A B O v s sv n i = pg_step K A B O v s sv (pg_run K A B O v s sv n) i := by
    intro i hi
    have h1 := pg_run_hi K A B O v s sv (i := i + 1) (j := i) (by omega) (n - (i + 1))
    rw [show i + 1 + (n - (i + 1)) = n from by omega] at h1
    rw [h1]
    show upd (pg_run K A B O v s sv i) i _ i = _
    rw [pk_us]
    refine pg_step_c hw hi hn (fun j hj => ?_)
    have h2 := pg_run_hi K A B O v s sv (i := i) (j := j) hj (n - i)
    rw [show i + (n - i) = n from by omega] at h2
    exact h2.symm
  have b : ∀ d i, i < d → i < n → pg_bit (pg_run K A B O v s sv n i) := by
    intro d
    induction d with
    | zero => intro i h; omega
    | succ d ih =>
      intro i h hi
      rw [e i hi]
      exact pg_step_b hw hi hn hs (fun j hj => ih j (by omega) (by omega))
  exact fun i hi => ⟨e i hi, b (i + 1) i (by omega) hi⟩
/-- some output differs between the good and the faulty run -/
def pg_D (K A B O U : Nat → Int32) (n v f : Nat) : Prop := ∃ j, j < n ∧ ¬ U j = 0 ∧ ¬ pg_run K A B O (nI v) (-1) 0 n j = pg_run K A B O (nI v) (nI (f / 2)) (nI (f % 2)) n j
noncomputable def pg_d (K A B O U : Nat → Int32) (n v f : Nat) : Bool := @decide (pg_D K A B O U n v f) (Classical.propDecidable _)
theorem pg_d_t {K A B O U : Nat → Int32} {n v f : Nat} (h : pg_D K A B O U n v f) : pg_d K A B O U n v f = true := by
  unfold pg_d
  exact @decide_eq_true _ (Classical.propDecidable _) h
theorem pg_d_f {K A B O U : Nat → Int32} {n v f : Nat} (h : ¬ pg_D K A B O U n v f) : pg_d K A B O U n v f = false := by
  unfold pg_d
  exact @decide_eq_false _ (Classical.propDecidable _) h
/-! counts -/
def pg_cnt (p : Nat → Bool) : Nat → Nat
  | 0 => 0
  | n + 1 => pg_cnt p n + (if p n = true then 1 else 0)
theorem pg_cnt_t {p : Nat → Bool} {n : Nat} (h : p n = true) : pg_cnt p (n + 1) = pg_cnt p n + 1 := by
  show pg_cnt p n + (if p n = true then 1 else 0) = _
  rw [if_pos h]
theorem pg_cnt_f {p : Nat → Bool} {n : Nat} (h : p n = false) : pg_cnt p (n + 1) = pg_cnt p n := by
  show pg_cnt p n + (if p n = true then 1 else 0) = _
  rw [if_neg (by rw [h]; decide)]
  rfl
theorem pg_cnt_le (p : Nat → Bool) : ∀ n, pg_cnt p n ≤ n := by
  intro n
  induction n with
  | zero => exact Nat.le_refl _
  | succ n ih =>
    cases h : p n with
    | false => rw [pg_cnt_f h]; omega
    | true => rw [pg_cnt_t h]; omega
theorem pg_cnt_c {p q : Nat → Bool} : ∀ n, (∀ j, j < n → p j = q j) → pg_cnt p n = pg_cnt q n := by
  intro n
  induction n with
  | zero => intro _; rfl
  | succ n ih =>
    intro h
    have h1 := ih (fun j hj => h j (by omega))
    have h2 := h n (by omega)
    show pg_cnt p n + (if p n = true then 1 else 0) = pg_cnt q n + (if q n = true then 1 else 0)
    rw [h1, h2]
theorem pg_cnt_m {p q : Nat → Bool} : ∀ n, (∀ j, j < n → p j = true → q j = true) → pg_cnt p n ≤ pg_cnt q n := by
  intro n
  induction n with
  | zero => intro _; exact Nat.le_refl _
  | succ n ih =>
    intro h
    have h1 := ih (fun j hj => h j (by omega))
    have h2 := h n (by omega)
    cases hp : p n with
    | false =>
      rw [pg_cnt_f hp]
      cases hq : q n with
      | false => rw [pg_cnt_f hq]; exact h1
      | true => rw [pg_cnt_t hq]; omega
    | true => rw [pg_cnt_t hp, pg_cnt_t (h2 hp)]; omega
theorem pg_cnt_s {p q : Nat → Bool} {i : Nat} (hp : p i = false) (hq : q i = true) : ∀ n, i < n → (∀ j, j < n → p j = true → q j = true) → pg_cnt p n < pg_cnt q n := by
  intro n
  induction n with
  | zero => intro h _; omega
  | succ n ih =>
    intro hi h
    by_cases e : i = n
    · subst e
      have h1 := pg_cnt_m i (fun j hj => h j (by omega))
      rw [pg_cnt_f hp, pg_cnt_t hq]; omega
    · have h1 := ih (by omega) (fun j hj => h j (by omega))
      have h2 := h n (by omega)
      cases hp : p n with
      | false =>
        rw [pg_cnt_f hp]
        cases hq : q n with
        | false => rw [pg_cnt_f hq]; exact h1
        | true => rw [pg_cnt_t hq]; omega
      | true => rw [pg_cnt_t hp, pg_cnt_t (h2 hp)]; omega
theorem pg_cnt_x {p : Nat → Bool} {i n : Nat} (hp : p i = false) (hi : i < n) : pg_cnt p n < n := by
  have h := pg_cnt_s (q := fun _ => true) hp rfl n hi (fun _ _ _ => rfl)
  have h2 := pg_cnt_le (fun _ => true) n
  omega
theorem pg_cnt_p {p q : Nat → Bool} {i : Nat} (hp : p i = false) (hq : q i = true) (h : ∀ j, j ≠ i → p j = q j) : ∀ n, i < n → pg_cnt q n = pg_cnt p n + 1 := by
  intro n
  induction n with
  | zero => intro h; omega
  | succ n ih =>
    intro hi
    by_cases e : i = n
    · subst e
      rw [pg_cnt_f hp, pg_cnt_t hq, pg_cnt_c i (fun j hj => h j (by omega))]
    · have h1 := ih (by omega)
      have h2 := h n (by omega)
      show pg_cnt q n + (if q n = true then 1 else 0) = pg_cnt p n + (if p n = true then 1 else 0) + 1
      rw [h1, h2]; omega
theorem pg_cnt_0 {p : Nat → Bool} : ∀ n, (∀ j, j < n → p j = false) → pg_cnt p n = 0 := by
  intro n
  induction n with
  | zero => intro _; rfl
  | succ n ih => intro h; rw [pg_cnt_f (h n (by omega))]; exact ih (fun j hj => h j (by omega))
theorem pg_cnt_1 {p : Nat → Bool} {i n : Nat} (hp : p i = true) (hi : i < n) : 0 < pg_cnt p n := by
  have h := pg_cnt_s (p := fun _ => false) (q := p) rfl hp n hi (fun _ _ z => absurd (show false = true from z) (by decide))
  omega
end PGB

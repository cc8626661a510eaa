section
section PGA
/-! rows of kit/rows, pasted -/
theorem pk_us {f : Nat → Int32} {k : Nat} {x : Int32} : upd f k x k = x := if_pos rfl
theorem pk_un {f : Nat → Int32} {k j : Nat} {x : Int32} (h : j ≠ k) : upd f k x j = f j := if_neg h
theorem pk_sub {a b : Nat} (h : b ≤ a) : nI a - nI b = nI (a - b) := by
  obtain ⟨c, rfl⟩ : ∃ c, a = c + b := ⟨a - b, by omega⟩
  rw [← nI_add, Int32.add_sub_cancel, Nat.add_sub_cancel]
theorem pk_mul (a b : Nat) : nI a * nI b = nI (a * b) := (Int32.ofNat_mul a b).symm
theorem pk_div {a d : Nat} (ha : a < 2 ^ 31) (h0 : 0 < d) (hd : d < 2 ^ 31) : nI a / nI d = nI (a / d) := by
  apply Int32.toInt_inj.mp
  rw [lg_idiv_nonneg (by rw [nI_toInt ha]; omega) (by rw [nI_toInt hd]; omega), nI_toInt ha, nI_toInt hd, nI_toInt (Nat.lt_of_le_of_lt (Nat.div_le_self a d) ha)]
  first | rfl | exact (Int.natCast_ediv _ _).symm
theorem pk_rem {a d : Nat} (ha : a < 2 ^ 31) (h0 : 0 < d) (hd : d < 2 ^ 31) : nI a - nI a / nI d * nI d = nI (a % d) := by
  rw [pk_div ha h0 hd, pk_mul, pk_sub (Nat.div_mul_le_self a d)]
  exact congrArg nI (by have := Nat.div_add_mod' a d; omega)
theorem pk_ix (x : Int32) {n : Nat} (hn : n < 2 ^ 31) : x < 0 ∨ nI n ≤ x ∨ ∃ j : Nat, j < n ∧ x = nI j := by
  by_cases h : x < 0
  · exact Or.inl h
  · obtain ⟨j, hj, rfl⟩ := nI_of h
    by_cases h2 : j < n
    · exact Or.inr (Or.inr ⟨j, h2, rfl⟩)
    · exact Or.inr (Or.inl (nI_le (by omega) hj))
theorem pk_le {x y : Int32} {A B : Prop} (a b : Nat) (f : a ≤ b → A) (g : b < a → B) (hx : x = nI a := by rfl) (hy : y = nI b := by rfl) (ha : a < 2 ^ 31 := by omega) (hb : b < 2 ^ 31 := by omega) : (x ≤ y → A) ∧ (¬ x ≤ y → B) := by
  subst hx hy
  rw [nI_leI ha hb]
  exact ⟨f, fun z => g (by omega)⟩
theorem pk_lt {x y : Int32} {A B : Prop} (a b : Nat) (f : a < b → A) (g : b ≤ a → B) (hx : x = nI a := by rfl) (hy : y = nI b := by rfl) (ha : a < 2 ^ 31 := by omega) (hb : b < 2 ^ 31 := by omega) : (x < y → A) ∧ (¬ x < y → B) := by
  subst hx hy
  rw [nI_ltI ha hb]
  exact ⟨f, fun z => g (by omega)⟩
theorem pk_eq {x y : Int32} {A B : Prop} (a b : Nat) (f : a = b → A) (g : a ≠ b → B) (hx : x = nI a := by rfl) (hy : y = nI b := by rfl) (ha : a < 2 ^ 31 := by omega) (hb : b < 2 ^ 31 := by omega) : (x = y → A) ∧ (¬ x = y → B) := by
  subst hx hy
  rw [nI_eq ha hb]
  exact ⟨f, g⟩
theorem pk_in {x : Int32} (n N : Nat) (h : n < N) (hx : x = nI n := by rfl) (hN : N < 2 ^ 31 := by omega) : vp_in x N := by
  subst hx
  exact vp_in_nI h hN
theorem pk_cl {x : Int32} (n : Nat) (hx : x = nI n := by rfl) (h : n < 2 ^ 31 := by omega) : x.toNatClampNeg = n := by
  subst hx
  exact nI_clamp h
theorem pk_tn {n : Nat} (h : n < 2 ^ 32) : (nI n).toBitVec.toNat = n := Nat.mod_eq_of_lt h
theorem pk_and (x : Int32) {m : Int32} (k : Nat) (hm : m.toBitVec.toNat = 2 ^ k - 1) : x &&& m = nI (x.toBitVec.toNat % 2 ^ k) := by
  apply Int32.toBitVec_inj.mp
  apply BitVec.eq_of_toNat_eq
  rw [Int32.toBitVec_and, BitVec.toNat_and, hm, Nat.and_two_pow_sub_one_eq_mod]
  show _ = (BitVec.ofNat 32 _).toNat
  rw [BitVec.toNat_ofNat]
  exact (Nat.mod_eq_of_lt (Nat.lt_of_le_of_lt (Nat.mod_le _ _) x.toBitVec.isLt)).symm
theorem pk_shl (a s : Int32) (k : Nat) (hs : (s.toBitVec.smod 32).toNat = k) : (a <<< s).toBitVec.toNat = a.toBitVec.toNat * 2 ^ k % 2 ^ 32 := by
  show (a.toBitVec <<< (s.toBitVec.smod 32).toNat).toNat = _
  rw [hs, BitVec.toNat_shiftLeft, Nat.shiftLeft_eq]
theorem pk_shlN {n : Nat} (s : Int32) (k : Nat) (hs : (s.toBitVec.smod 32).toNat = k) (h : n * 2 ^ k < 2 ^ 32) : nI n <<< s = nI (n * 2 ^ k) := by
  apply Int32.toBitVec_inj.mp
  apply BitVec.eq_of_toNat_eq
  have hn : n < 2 ^ 32 := Nat.lt_of_le_of_lt (Nat.le_mul_of_pos_right n (Nat.two_pow_pos k)) h
  rw [pk_shl _ _ k hs, pk_tn hn, pk_tn h, Nat.mod_eq_of_lt h]
theorem pk_least (P : Nat → Prop) (h : ∃ k, P k) : ∃ k, P k ∧ ∀ j, j < k → ¬ P j := by
  obtain ⟨k, hk⟩ := h
  induction k using Nat.strongRecOn with
  | ind k ih =>
    by_cases e : ∃ j, j < k ∧ P j
    · obtain ⟨j, hj, pj⟩ := e
      exact ih j hj pj
    · exact ⟨k, hk, fun j hj pj => e ⟨j, hj, pj⟩⟩
theorem s_l : ∀ n, n < 32 → ((nI n &&& 31).toBitVec.smod 32).toNat = n := by decide +kernel
end PGA
end
section
section PGB
/-! bits, gates, the evaluation of a netlist as a pure run -/
def pg_bit (x : Int32) : Prop := x = 0 ∨ x = 1
theorem pg_b0 : pg_bit 0 := Or.inl rfl
theorem pg_b1 : pg_bit 1 := Or.inr rfl
theorem pg_nb {x : Int32} (h : pg_bit x) : narrow .boolean (.int x) = .int x := by
  rcases h with rfl | rfl <;> rfl
theorem pg_vb0 : vp_nar .boolean 0 = 0 := by decide
theorem pg_vb1 : vp_nar .boolean 1 = 1 := by decide
theorem pg_a1 {x : Int32} (h : pg_bit x) : x &&& 1 = x := by
  rcases h with rfl | rfl <;> decide
theorem pg_and1 (x : Int32) : pg_bit (x &&& 1) := by
  rw [pk_and x 1 (by decide)]
  have h : x.toBitVec.toNat % 2 ^ 1 < 2 := Nat.mod_lt _ (by decide)
  generalize x.toBitVec.toNat % 2 ^ 1 = y at h
  rcases (by omega : y = 0 ∨ y = 1) with rfl | rfl
  · exact Or.inl rfl
  · exact Or.inr rfl
theorem pg_nbit {a : Nat} (h : a < 2) : pg_bit (nI a) := by
  rcases (by omega : a = 0 ∨ a = 1) with rfl | rfl
  · exact Or.inl rfl
  · exact Or.inr rfl
theorem pg_n1 {a : Nat} (h : a < 2 ^ 31) : ¬ nI a = -1 := by
  intro e
  have := nI_pos (n := a) h
  rw [e] at this
  exact this (by decide)
def pg_gate (k a b : Int32) : Int32 :=
  if k = 0 then a else if k = 1 then 1 - a else if k = 2 then a &&& b else if k = 3 then 1 - (a &&& b)
  else if k = 4 then a ||| b else if k = 5 then 1 - (a ||| b) else if k = 6 then a ^^^ b else 1 - (a ^^^ b)
theorem pg_gate_bit (k : Int32) {a b : Int32} (ha : pg_bit a) (hb : pg_bit b) : pg_bit (pg_gate k a b) := by
  unfold pg_gate
  rcases ha with rfl | rfl <;> rcases hb with rfl | rfl <;> (repeat' split) <;> first | exact Or.inl (by decide) | exact Or.inr (by decide)
def pg_step (K A B O : Nat → Int32) (v s sv : Int32) (g : Nat → Int32) (i : Nat) : Int32 :=
  if nI i = s then sv else if K i = 8 then (v >>> (O i &&& 31)) &&& 1 else pg_gate (K i) (g (A i).toNatClampNeg) (g (B i).toNatClampNeg)
def pg_run (K A B O : Nat → Int32) (v s sv : Int32) : Nat → Nat → Int32
  | 0 => fun _ => 0
  | n + 1 => upd (pg_run K A B O v s sv n) n (pg_step K A B O v s sv (pg_run K A B O v s sv n) n)
def pg_Wf (K A B : Nat → Int32) (n : Nat) : Prop := ∀ i, i < n → (∃ k : Nat, k ≤ 8 ∧ K i = nI k) ∧ (K i = 8 ∨ ((∃ a : Nat, a < i ∧ A i = nI a) ∧ (∃ b : Nat, b < i ∧ B i = nI b)))
def pg_Ev (K A B O : Nat → Int32) (v s sv : Int32) (n : Nat) (g : Nat → Int32) : Prop := ∀ i, i < n → g i = pg_step K A B O v s sv g i ∧ pg_bit (g i)
theorem pg_run_hi (K A B O : Nat → Int32) (v s sv : Int32) {i j : Nat} (h : j < i) : ∀ d, pg_run K A B O v s sv (i + d) j = pg_run K A B O v s sv i j := by
  intro d
  induction d with
  | zero => rfl
  | succ d ih =>
    show upd (pg_run K A B O v s sv (i + d)) (i + d) _ j = _
    rw [pk_un (by omega), ih]
theorem pg_step_c {K A B O : Nat → Int32} {v s sv : Int32} {g g' : Nat → Int32} {n i : Nat} (hw : pg_Wf K A B n) (hi : i < n) (hn : n ≤ 32) (h : ∀ j, j < i → g j = g' j) : pg_step K A B O v s sv g i = pg_step K A B O v s sv g' i := by
  unfold pg_step
  by_cases h1 : nI i = s
  · rw [if_pos h1, if_pos h1]
  · rw [if_neg h1, if_neg h1]
    by_cases h2 : K i = 8
    · rw [if_pos h2, if_pos h2]
    · rw [if_neg h2, if_neg h2]
      rcases (hw i hi).2 with h3 | ⟨⟨a, ha, ea⟩, ⟨b, hb, eb⟩⟩
      · exact absurd h3 h2
      · rw [ea, eb, nI_clamp (by omega), nI_clamp (by omega), h a ha, h b hb]
theorem pg_step_b {K A B O : Nat → Int32} {v s sv : Int32} {g : Nat → Int32} {n i : Nat} (hw : pg_Wf K A B n) (hi : i < n) (hn : n ≤ 32) (hs : pg_bit sv) (h : ∀ j, j < i → pg_bit (g j)) : pg_bit (pg_step K A B O v s sv g i) := by
  unfold pg_step
  by_cases h1 : nI i = s
  · rw [if_pos h1]; exact hs
  · rw [if_neg h1]
    by_cases h2 : K i = 8
    · rw [if_pos h2]; exact pg_and1 _
    · rw [if_neg h2]
      rcases (hw i hi).2 with h3 | ⟨⟨a, ha, ea⟩, ⟨b, hb, eb⟩⟩
      · exact absurd h3 h2
      · rw [ea, eb, nI_clamp (by omega), nI_clamp (by omega)]
        exact pg_gate_bit _ (h a ha) (h b hb)
theorem pg_run_ev {K A B : Nat → Int32} (O : Nat → Int32) (v s : Int32) {sv : Int32} {n : Nat} (hw : pg_Wf K A B n) (hn : n ≤ 32) (hs : pg_bit sv) : pg_Ev K A B O v s sv n (pg_run K A B O v s sv n) := by
  have e : ∀ i, i < n → pg_run K A B O v s sv n i = pg_step K A B O v s sv (pg_run K A B O v s sv n) i := by
    intro i hi
    have h1 := pg_run_hi K A B O v s sv (i := i + 1) (j := i) (by omega) (n - (i + 1))
    rw [show i + 1 + (n - (i + 1)) = n from by omega] at h1
    rw [h1]
    show upd (pg_run K A B O v s sv i) i _ i = _
    rw [pk_us]
    refine pg_step_c hw hi hn (fun j hj => ?_)
    have h2 := pg_run_hi K A B O v s sv (i := i) (j := j) hj (n - i)
    rw [show i + (n - i) = n from by omega] at h2
    exact h2.symm
  have b : ∀ d i, i < d → i < n → pg_bit (pg_run K A B O v s sv n i) := by
    intro d
    induction d with
    | zero => intro i h; omega
    | succ d ih =>
      intro i h hi
      rw [e i hi]
      exact pg_step_b hw hi hn hs (fun j hj => ih j (by omega) (by omega))
  exact fun i hi => ⟨e i hi, b (i + 1) i (by omega) hi⟩
/-- some output differs between the good and the faulty run -/
def pg_D (K A B O U : Nat → Int32) (n v f : Nat) : Prop := ∃ j, j < n ∧ ¬ U j = 0 ∧ ¬ pg_run K A B O (nI v) (-1) 0 n j = pg_run K A B O (nI v) (nI (f / 2)) (nI (f % 2)) n j
noncomputable def pg_d (K A B O U : Nat → Int32) (n v f : Nat) : Bool := @decide (pg_D K A B O U n v f) (Classical.propDecidable _)
theorem pg_d_t {K A B O U : Nat → Int32} {n v f : Nat} (h : pg_D K A B O U n v f) : pg_d K A B O U n v f = true := by
  unfold pg_d
  exact @decide_eq_true _ (Classical.propDecidable _) h
theorem pg_d_f {K A B O U : Nat → Int32} {n v f : Nat} (h : ¬ pg_D K A B O U n v f) : pg_d K A B O U n v f = false := by
  unfold pg_d
  exact @decide_eq_false _ (Classical.propDecidable _) h
/-! counts -/
def pg_cnt (p : Nat → Bool) : Nat → Nat
  | 0 => 0
  | n + 1 => pg_cnt p n + (if p n = true then 1 else 0)
theorem pg_cnt_t {p : Nat → Bool} {n : Nat} (h : p n = true) : pg_cnt p (n + 1) = pg_cnt p n + 1 := by
  show pg_cnt p n + (if p n = true then 1 else 0) = _
  rw [if_pos h]
theorem pg_cnt_f {p : Nat → Bool} {n : Nat} (h : p n = false) : pg_cnt p (n + 1) = pg_cnt p n := by
  show pg_cnt p n + (if p n = true then 1 else 0) = _
  rw [if_neg (by rw [h]; decide)]
  rfl
theorem pg_cnt_le (p : Nat → Bool) : ∀ n, pg_cnt p n ≤ n := by
  intro n
  induction n with
  | zero => exact Nat.le_refl _
  | succ n ih =>
    cases h : p n with
    | false => rw [pg_cnt_f h]; omega
    | true => rw [pg_cnt_t h]; omega
theorem pg_cnt_c {p q : Nat → Bool} : ∀ n, (∀ j, j < n → p j = q j) → pg_cnt p n = pg_cnt q n := by
  intro n
  induction n with
  | zero => intro _; rfl
  | succ n ih =>
    intro h
    have h1 := ih (fun j hj => h j (by omega))
    have h2 := h n (by omega)
    show pg_cnt p n + (if p n = true then 1 else 0) = pg_cnt q n + (if q n = true then 1 else 0)
    rw [h1, h2]
theorem pg_cnt_m {p q : Nat → Bool} : ∀ n, (∀ j, j < n → p j = true → q j = true) → pg_cnt p n ≤ pg_cnt q n := by
  intro n
  induction n with
  | zero => intro _; exact Nat.le_refl _
  | succ n ih =>
    intro h
    have h1 := ih (fun j hj => h j (by omega))
    have h2 := h n (by omega)
    cases hp : p n with
    | false =>
      rw [pg_cnt_f hp]
      cases hq : q n with
      | false => rw [pg_cnt_f hq]; exact h1
      | true => rw [pg_cnt_t hq]; omega
    | true => rw [pg_cnt_t hp, pg_cnt_t (h2 hp)]; omega
theorem pg_cnt_s {p q : Nat → Bool} {i : Nat} (hp : p i = false) (hq : q i = true) : ∀ n, i < n → (∀ j, j < n → p j = true → q j = true) → pg_cnt p n < pg_cnt q n := by
  intro n
  induction n with
  | zero => intro h _; omega
  | succ n ih =>
    intro hi h
    by_cases e : i = n
    · subst e
      have h1 := pg_cnt_m i (fun j hj => h j (by omega))
      rw [pg_cnt_f hp, pg_cnt_t hq]; omega
    · have h1 := ih (by omega) (fun j hj => h j (by omega))
      have h2 := h n (by omega)
      cases hp : p n with
      | false =>
        rw [pg_cnt_f hp]
        cases hq : q n with
        | false => rw [pg_cnt_f hq]; exact h1
        | true => rw [pg_cnt_t hq]; omega
      | true => rw [pg_cnt_t hp, pg_cnt_t (h2 hp)]; omega
theorem pg_cnt_x {p : Nat → Bool} {i n : Nat} (hp : p i = false) (hi : i < n) : pg_cnt p n < n := by
  have h := pg_cnt_s (q := fun _ => true) hp rfl n hi (fun _ _ _ => rfl)
  have h2 := pg_cnt_le (fun _ => true) n
  omega
theorem pg_cnt_p {p q : Nat → Bool} {i : Nat} (hp : p i = false) (hq : q i = true) (h : ∀ j, j ≠ i → p j = q j) : ∀ n, i < n → pg_cnt q n = pg_cnt p n + 1 := by
  intro n
  induction n with
  | zero => intro h; omega
  | succ n ih =>
    intro hi
    by_cases e : i = n
    · subst e
      rw [pg_cnt_f hp, pg_cnt_t hq, pg_cnt_c i (fun j hj => h j (by omega))]
    · have h1 := ih (by omega)
      have h2 := h n (by omega)
      show pg_cnt q n + (if q n = true then 1 else 0) = pg_cnt p n + (if p n = true then 1 else 0) + 1
      rw [h1, h2]; omega
theorem pg_cnt_0 {p : Nat → Bool} : ∀ n, (∀ j, j < n → p j = false) → pg_cnt p n = 0 := by
  intro n
  induction n with
  | zero => intro _; rfl
  | succ n ih => intro h; rw [pg_cnt_f (h n (by omega))]; exact ih (fun j hj => h j (by omega))
theorem pg_cnt_1 {p : Nat → Bool} {i n : Nat} (hp : p i = true) (hi : i < n) : 0 < pg_cnt p n := by
  have h := pg_cnt_s (p := fun _ => false) (q := p) rfl hp n hi (fun _ _ z => absurd (show false = true from z) (by decide))
  omega
end PGB
end
section
section PGC
/-! the marks of one test, as closed forms -/
def pg_st (st : Nat → Int32) (dt : Nat → Bool) (i : Nat) : Nat → Int32 := fun j => if j < i ∧ st j = 0 ∧ dt j = true then 1 else st j
def pg_db (st db : Nat → Int32) (dt : Nat → Bool) (t : Int32) (i : Nat) : Nat → Int32 := fun j => if j < i ∧ st j = 0 ∧ dt j = true then t else db j
theorem pg_st_0 (st : Nat → Int32) (dt : Nat → Bool) : pg_st st dt 0 = st := by
  funext j
  unfold pg_st
  rw [if_neg (fun z => absurd z.1 (Nat.not_lt_zero _))]
theorem pg_db_0 (st db : Nat → Int32) (dt : Nat → Bool) (t : Int32) : pg_db st db dt t 0 = db := by
  funext j
  unfold pg_db
  rw [if_neg (fun z => absurd z.1 (Nat.not_lt_zero _))]
theorem pg_st_i (st : Nat → Int32) (dt : Nat → Bool) (i : Nat) : pg_st st dt i i = st i := by
  unfold pg_st
  rw [if_neg (fun z => absurd z.1 (Nat.lt_irrefl _))]
theorem pg_st_t {st : Nat → Int32} {dt : Nat → Bool} {i : Nat} (h0 : st i = 0) (hd : dt i = true) : upd (pg_st st dt i) i 1 = pg_st st dt (i + 1) := by
  funext j
  by_cases e : j = i
  · subst e
    rw [pk_us]
    unfold pg_st
    rw [if_pos ⟨Nat.lt_succ_self _, h0, hd⟩]
  · rw [pk_un e]
    unfold pg_st
    by_cases h : j < i ∧ st j = 0 ∧ dt j = true
    · rw [if_pos h, if_pos ⟨Nat.lt_succ_of_lt h.1, h.2⟩]
    · rw [if_neg h, if_neg (fun z => h ⟨by have := z.1; omega, z.2⟩)]
theorem pg_db_t {st db : Nat → Int32} {dt : Nat → Bool} {t : Int32} {i : Nat} (h0 : st i = 0) (hd : dt i = true) : upd (pg_db st db dt t i) i t = pg_db st db dt t (i + 1) := by
  funext j
  by_cases e : j = i
  · subst e
    rw [pk_us]
    unfold pg_db
    rw [if_pos ⟨Nat.lt_succ_self _, h0, hd⟩]
  · rw [pk_un e]
    unfold pg_db
    by_cases h : j < i ∧ st j = 0 ∧ dt j = true
    · rw [if_pos h, if_pos ⟨Nat.lt_succ_of_lt h.1, h.2⟩]
    · rw [if_neg h, if_neg (fun z => h ⟨by have := z.1; omega, z.2⟩)]
theorem pg_st_n {st : Nat → Int32} {dt : Nat → Bool} {i : Nat} (hn : ¬ (st i = 0 ∧ dt i = true)) : pg_st st dt i = pg_st st dt (i + 1) := by
  funext j
  unfold pg_st
  by_cases h : j < i ∧ st j = 0 ∧ dt j = true
  · rw [if_pos h, if_pos ⟨Nat.lt_succ_of_lt h.1, h.2⟩]
  · rw [if_neg h, if_neg]
    intro z
    by_cases e : j = i
    · subst e; exact hn z.2
    · exact h ⟨by have := z.1; omega, z.2⟩
theorem pg_db_n {st db : Nat → Int32} {dt : Nat → Bool} {t : Int32} {i : Nat} (hn : ¬ (st i = 0 ∧ dt i = true)) : pg_db st db dt t i = pg_db st db dt t (i + 1) := by
  funext j
  unfold pg_db
  by_cases h : j < i ∧ st j = 0 ∧ dt j = true
  · rw [if_pos h, if_pos ⟨Nat.lt_succ_of_lt h.1, h.2⟩]
  · rw [if_neg h, if_neg]
    intro z
    by_cases e : j = i
    · subst e; exact hn z.2
    · exact h ⟨by have := z.1; omega, z.2⟩
/-- how many faults below i are no longer untried -/
def pg_done (st : Nat → Int32) (i : Nat) : Nat := pg_cnt (fun f => decide (¬ st f = 0)) i
theorem pg_done_x {st : Nat → Int32} {f i : Nat} (h : st f = 0) (hf : f < i) : pg_done st i < i :=
  pg_cnt_x (i := f) (decide_eq_false (fun z => z h)) hf
theorem pg_done_2 {st : Nat → Int32} {f i : Nat} : pg_done st i ≤ pg_done (upd st f 2) i := by
  refine pg_cnt_m i (fun j _ h => ?_)
  have h1 : ¬ st j = 0 := of_decide_eq_true h
  refine decide_eq_true ?_
  by_cases e : j = f
  · rw [e, pk_us]; decide
  · rw [pk_un e]; exact h1
theorem pg_done_s {st : Nat → Int32} {dt : Nat → Bool} {f i : Nat} (h0 : st f = 0) (hd : dt f = true) (hf : f < i) : pg_done st i < pg_done (pg_st st dt i) i := by
  refine pg_cnt_s (i := f) (decide_eq_false (fun z => z h0)) (decide_eq_true ?_) i hf (fun j _ h => ?_)
  · unfold pg_st
    rw [if_pos ⟨hf, h0, hd⟩]
    decide
  · have h1 : ¬ st j = 0 := of_decide_eq_true h
    refine decide_eq_true ?_
    unfold pg_st
    rw [if_neg (fun z => h1 z.2.1)]
    exact h1
/-- the marks and the detecting tests fit -/
def pg_Fit (st db : Nat → Int32) (N : Nat) : Prop := ∀ f, f < N → ¬ st f = 1 → db f = -1
theorem pg_fit_2 {st db : Nat → Int32} {f N : Nat} (h : pg_Fit st db N) (h0 : st f = 0) : pg_Fit (upd st f 2) db N := by
  intro j hj hn
  by_cases e : j = f
  · subst e
    exact h j hj (by rw [h0]; decide)
  · rw [pk_un e] at hn
    exact h j hj hn
theorem pg_fit_s {st db : Nat → Int32} {dt : Nat → Bool} {t : Int32} {N : Nat} (h : pg_Fit st db N) : pg_Fit (pg_st st dt N) (pg_db st db dt t N) N := by
  intro j hj hn
  unfold pg_st at hn
  unfold pg_db
  by_cases c : j < N ∧ st j = 0 ∧ dt j = true
  · rw [if_pos c] at hn
    exact absurd rfl hn
  · rw [if_neg c] at hn ⊢
    exact h j hj hn
/-- 1 shifted by the number of inputs -/
theorem pg_sh {m : Nat} (h : m ≤ 10) : (1 : Int32) <<< (nI m &&& 31) = nI (2 ^ m) := by
  have h1 := pk_shlN (n := 1) (nI m &&& 31) m (s_l m (by omega)) (by
    have : 2 ^ m ≤ 2 ^ 10 := Nat.pow_le_pow_right (by decide) h
    omega)
  rw [Nat.one_mul] at h1
  exact h1
theorem pg_p10 {m : Nat} (h : m ≤ 10) : 2 ^ m ≤ 1024 := by
  have h1 : 2 ^ m ≤ 2 ^ 10 := Nat.pow_le_pow_right (by decide) h
  omega
end PGC
end
section
section PGD
variable {NL IL n m q t : Nat} {se : Int32} {K A B O U ST DB TV TT G F V W : Nat → Int32}
/-! gates at each kind -/
theorem pg_g0 (a b : Int32) : pg_gate (nI 0) a b = a := by
  unfold pg_gate
  rw [if_pos (by decide)]
theorem pg_g1 (a b : Int32) : pg_gate (nI 1) a b = 1 - a := by
  unfold pg_gate
  rw [if_neg (by decide), if_pos (by decide)]
theorem pg_g2 (a b : Int32) : pg_gate (nI 2) a b = a &&& b := by
  unfold pg_gate
  rw [if_neg (by decide), if_neg (by decide), if_pos (by decide)]
theorem pg_g3 (a b : Int32) : pg_gate (nI 3) a b = 1 - (a &&& b) := by
  unfold pg_gate
  rw [if_neg (by decide), if_neg (by decide), if_neg (by decide), if_pos (by decide)]
theorem pg_g4 (a b : Int32) : pg_gate (nI 4) a b = a ||| b := by
  unfold pg_gate
  rw [if_neg (by decide), if_neg (by decide), if_neg (by decide), if_neg (by decide), if_pos (by decide)]
theorem pg_g5 (a b : Int32) : pg_gate (nI 5) a b = 1 - (a ||| b) := by
  unfold pg_gate
  rw [if_neg (by decide), if_neg (by decide), if_neg (by decide), if_neg (by decide), if_neg (by decide), if_pos (by decide)]
theorem pg_g6 (a b : Int32) : pg_gate (nI 6) a b = a ^^^ b := by
  unfold pg_gate
  rw [if_neg (by decide), if_neg (by decide), if_neg (by decide), if_neg (by decide), if_neg (by decide), if_neg (by decide), if_pos (by decide)]
theorem pg_g7 (a b : Int32) : pg_gate (nI 7) a b = 1 - (a ^^^ b) := by
  unfold pg_gate
  rw [if_neg (by decide), if_neg (by decide), if_neg (by decide), if_neg (by decide), if_neg (by decide), if_neg (by decide), if_neg (by decide)]
theorem pg_k8 {k : Nat} (h : k ≤ 7) : k = 0 ∨ k = 1 ∨ k = 2 ∨ k = 3 ∨ k = 4 ∨ k = 5 ∨ k = 6 ∨ k = 7 := by omega
theorem xg_gate {post : Int32 → Prop} {k : Nat} {a b : Int32} (hk : k ≤ 7) (h : post (pg_gate (nI k) a b)) : wpX_gateValue post (nI k) a b := by
  rcases pg_k8 hk with rfl | rfl | rfl | rfl | rfl | rfl | rfl | rfl
  · rw [pg_g0] at h
    exact br_f (by decide) (br_f (by decide) (br_t (by decide) h))
  · rw [pg_g1] at h
    exact br_f (by decide) (br_f (by decide) (br_f (by decide) (br_t (by decide) h)))
  · rw [pg_g2] at h
    exact br_f (by decide) (br_f (by decide) (br_f (by decide) (br_f (by decide) (br_t (by decide) h))))
  · rw [pg_g3] at h
    exact br_f (by decide) (br_f (by decide) (br_f (by decide) (br_f (by decide) (br_f (by decide) (br_t (by decide) h)))))
  · rw [pg_g4] at h
    exact br_f (by decide) (br_f (by decide) (br_f (by decide) (br_f (by decide) (br_f (by decide) (br_f (by decide) (br_t (by decide) h))))))
  · rw [pg_g5] at h
    exact br_f (by decide) (br_f (by decide) (br_f (by decide) (br_f (by decide) (br_f (by decide) (br_f (by decide) (br_f (by decide) (br_t (by decide) h)))))))
  · rw [pg_g6] at h
    exact br_f (by decide) (br_f (by decide) (br_f (by decide) (br_f (by decide) (br_f (by decide) (br_f (by decide) (br_f (by decide) (br_f (by decide) (br_t (by decide) h))))))))
  · rw [pg_g7] at h
    exact br_f (by decide) (br_t (by decide) h)
/-! ranges -/
theorem pg_rf {e p : Int32} {P Q : Prop} (h : p < 0 ∨ e ≤ p) (a : P) : (p < 0 → P) ∧ (¬ p < 0 → ((e ≤ p → P) ∧ (¬ e ≤ p → Q))) :=
  ⟨fun _ => a, fun h0 => ⟨fun _ => a, fun h1 => absurd (h.resolve_left h0) h1⟩⟩
theorem pg_rt {a j : Nat} {e : Int32} {P Q : Prop} (he : e = nI a) (hj : j < a) (ha : a < 2 ^ 31) (b : Q) : (nI j < 0 → P) ∧ (¬ nI j < 0 → ((e ≤ nI j → P) ∧ (¬ e ≤ nI j → Q))) := by
  subst he
  exact br_f (nI_pos (by omega)) (br_f (nI_ge hj ha) b)
theorem pg_sf {e p : Int32} {P Q : Prop} (h : p < 0 ∨ e ≤ p) (a : P) : (p < 0 → P) ∧ (¬ p < 0 → ((p < e → Q) ∧ (¬ p < e → P))) :=
  ⟨fun _ => a, fun h0 => ⟨fun h1 => absurd (h.resolve_left h0) (Int32.not_le.mpr h1), fun _ => a⟩⟩
theorem pg_sr {a j : Nat} {e : Int32} {P Q : Prop} (he : e = nI a) (hj : j < a) (ha : a < 2 ^ 31) (b : Q) : (nI j < 0 → P) ∧ (¬ nI j < 0 → ((nI j < e → Q) ∧ (¬ nI j < e → P))) := by
  subst he
  exact br_f (nI_pos (by omega)) (br_t (nI_lt hj ha) b)
theorem pg_2n (n : Nat) : (2 : Int32) * nI n = nI (2 * n) := pk_mul 2 n
theorem xg_nodeF {post : Int32 → Prop} {x : Int32} (h : x < 0 ∨ nI n ≤ x) (a : post 0) : wpX_isNode post (nI NL, nI IL, nI n, nI m, nI q, se, nI t, K, A, B, O, U, ST, DB, TV, TT, G, F) x := pg_rf h a
theorem xg_nodeT {post : Int32 → Prop} {j : Nat} (hn : n ≤ 32) (hj : j < n) (a : post 1) : wpX_isNode post (nI NL, nI IL, nI n, nI m, nI q, se, nI t, K, A, B, O, U, ST, DB, TV, TT, G, F) (nI j) := pg_rt rfl hj (by omega) a
theorem xg_faultF {post : Int32 → Prop} {x : Int32} (h : x < 0 ∨ nI (2 * n) ≤ x) (a : post 0) : wpX_isFault post (nI NL, nI IL, nI n, nI m, nI q, se, nI t, K, A, B, O, U, ST, DB, TV, TT, G, F) x := pg_rf (by rw [pg_2n]; exact h) a
theorem xg_faultT {post : Int32 → Prop} {j : Nat} (hn : n ≤ 32) (hj : j < 2 * n) (a : post 1) : wpX_isFault post (nI NL, nI IL, nI n, nI m, nI q, se, nI t, K, A, B, O, U, ST, DB, TV, TT, G, F) (nI j) := pg_rt (pg_2n n) hj (by omega) a
theorem xg_testF {post : Int32 → Prop} {x : Int32} (h : x < 0 ∨ nI t ≤ x) (a : post 0) : wpX_isTest post (nI NL, nI IL, nI n, nI m, nI q, se, nI t, K, A, B, O, U, ST, DB, TV, TT, G, F) x := pg_rf h a
theorem xg_testT {post : Int32 → Prop} {j : Nat} (ht : t ≤ 64) (hj : j < t) (a : post 1) : wpX_isTest post (nI NL, nI IL, nI n, nI m, nI q, se, nI t, K, A, B, O, U, ST, DB, TV, TT, G, F) (nI j) := pg_rt rfl hj (by omega) a
theorem xg_vecF {post : Int32 → Prop} {x : Int32} {M : Nat} (hM : (1 : Int32) <<< (nI m &&& 31) = nI M) (h : x < 0 ∨ nI M ≤ x) (a : post 0) : wpX_isVector post (nI NL, nI IL, nI n, nI m, nI q, se, nI t, K, A, B, O, U, ST, DB, TV, TT, G, F) x := pg_rf (by rw [hM]; exact h) a
theorem xg_vecT {post : Int32 → Prop} {j M : Nat} (hM : (1 : Int32) <<< (nI m &&& 31) = nI M) (hM2 : M ≤ 1024) (hj : j < M) (a : post 1) : wpX_isVector post (nI NL, nI IL, nI n, nI m, nI q, se, nI t, K, A, B, O, U, ST, DB, TV, TT, G, F) (nI j) := pg_rt hM hj (by omega) a
theorem yg_vecF {post : Int32 → Prop} {x : Int32} {M : Nat} (hM : (1 : Int32) <<< (nI m &&& 31) = nI M) (h : x < 0 ∨ nI M ≤ x) (a : post 0) : wpY_inRange post (nI NL, nI IL, nI n, nI m, se, nI t, K, A, B, O, U, ST, DB, TV, TT, V, W) x := pg_rf (by rw [hM]; exact h) a
theorem yg_vecT {post : Int32 → Prop} {j M : Nat} (hM : (1 : Int32) <<< (nI m &&& 31) = nI M) (hM2 : M ≤ 1024) (hj : j < M) (a : post 1) : wpY_inRange post (nI NL, nI IL, nI n, nI m, se, nI t, K, A, B, O, U, ST, DB, TV, TT, V, W) (nI j) := pg_rt hM hj (by omega) a
theorem xg_app {post : Int32 → SX → Prop} {x y z : Int32} (hn : n < 32) (h : post (nI n) (nI NL, nI IL, nI (n + 1), nI m, nI q, se, nI t, (upd K n x), (upd A n y), (upd B n z), O, U, ST, DB, TV, TT, G, F)) : wpX_appendNode post (nI NL, nI IL, nI n, nI m, nI q, se, nI t, K, A, B, O, U, ST, DB, TV, TT, G, F) x y z := by
  have hin : vp_in (nI n) 32 := vp_in_nI hn (by decide)
  have hcl : (nI n).toNatClampNeg = n := nI_clamp (by omega)
  exact ⟨hin, nm_r (e' := upd K n x) (by rw [hcl]) ⟨hin, nm_r (e' := upd A n y) (by rw [hcl]) ⟨hin, nm_r (e' := upd B n z) (by rw [hcl]) (nm_r (nI_1 n) h)⟩⟩⟩
end PGD
end
section
section PGE
variable {NL IL n m q t : Nat} {se : Int32} {K A B O U ST DB TV TT G F : Nat → Int32}
/-! the component's evaluation, in both its prints -/
theorem xg_fillG_l {post : SX → Prop} {v s sv : Int32} {g : Nat → Int32} (hw : pg_Wf K A B n) (hn : n ≤ 32) (hg : pg_Ev K A B O v s sv n g) (hp : ∀ a : Nat → Int32, (∀ j, j < n → a j = g j) → post (nI NL, nI IL, nI n, nI m, nI q, se, nI t, K, A, B, O, U, ST, DB, TV, TT, a, F)) : ∀ (d i : Nat) (a : Nat → Int32), i + d = n → (∀ j, j < i → a j = g j) → wX_fillValues__goodValues_3 post v s sv (nI NL) (nI IL) (nI n) (nI m) (nI q) se (nI t) (d + 1) (nI i) K A B O U ST DB TV TT a F := by
  intro d
  induction d with
  | zero =>
    intro i a hi ha
    exact br_t (nI_le (by omega) (by omega)) (hp a (fun j hj => ha j (by omega)))
  | succ d ih =>
    intro i a hi ha
    have hin : vp_in (nI i) 32 := vp_in_nI (by omega) (by decide)
    have hcl : (nI i).toNatClampNeg = i := nI_clamp (by omega)
    have hup : ∀ x, x = g i → ∀ a', a' = upd a (nI i).toNatClampNeg x → ∀ y, y = nI i + 1 → wX_fillValues__goodValues_3 post v s sv (nI NL) (nI IL) (nI n) (nI m) (nI q) se (nI t) (d + 1) y K A B O U ST DB TV TT a' F := by
      intro x ex a' ea y ey
      rw [ey, nI_1]
      refine ih (i + 1) a' (by omega) (lt_s (fun j hj => ?_) ?_)
      · rw [ea, hcl, pk_un (by omega)]
        exact ha j hj
      · rw [ea, hcl, pk_us]
        exact ex
    have hgi := (hg i (by omega)).1
    unfold pg_step at hgi
    refine br_f (nI_ge (by omega) (by omega)) ?_
    by_cases h1 : nI i = s
    · rw [if_pos h1] at hgi
      exact br_t h1 ⟨hin, hup sv hgi.symm⟩
    · rw [if_neg h1] at hgi
      refine br_f h1 ⟨hin, ?_⟩
      by_cases h2 : K i = 8
      · rw [if_pos h2] at hgi
        refine br_t (by rw [hcl]; exact h2) ⟨hin, hin, hup _ ?_⟩
        rw [hcl]
        exact hgi.symm
      · rw [if_neg h2] at hgi
        obtain ⟨⟨k, hk, ek⟩, h3⟩ := hw i (by omega)
        rcases h3 with h3 | ⟨⟨a1, ha1, ea1⟩, ⟨b1, hb1, eb1⟩⟩
        · exact absurd h3 h2
        · have hk7 : k ≤ 7 := by
            by_cases e8 : k = 8
            · exact absurd (by rw [ek, e8]; rfl) h2
            · omega
          rw [ek, ea1, eb1, nI_clamp (by omega), nI_clamp (by omega)] at hgi
          have eK : K (nI i).toNatClampNeg = nI k := by rw [hcl]; exact ek
          have eA : A (nI i).toNatClampNeg = nI a1 := by rw [hcl]; exact ea1
          have eB : B (nI i).toNatClampNeg = nI b1 := by rw [hcl]; exact eb1
          have va : a (nI a1).toNatClampNeg = g a1 := by rw [nI_clamp (by omega)]; exact ha a1 ha1
          have vb : a (nI b1).toNatClampNeg = g b1 := by rw [nI_clamp (by omega)]; exact ha b1 hb1
          refine br_f (by rw [hcl]; exact h2) ⟨hin, by rw [eA]; exact vp_in_nI (by omega) (by decide), nm_r (e' := g a1) (by rw [eA]; exact va) ⟨hin, by rw [eB]; exact vp_in_nI (by omega) (by decide), nm_r (e' := g b1) (by rw [eB]; exact vb) ⟨hin, ?_⟩⟩⟩
          rw [eK]
          exact xg_gate hk7 ⟨hin, hup _ hgi.symm⟩
theorem xg_fillG {post : SX → Prop} {v s sv : Int32} {g : Nat → Int32} (hw : pg_Wf K A B n) (hn : n ≤ 32) (hg : pg_Ev K A B O v s sv n g) (hp : ∀ a : Nat → Int32, (∀ j, j < n → a j = g j) → post (nI NL, nI IL, nI n, nI m, nI q, se, nI t, K, A, B, O, U, ST, DB, TV, TT, a, F)) : wpX_fillValues__goodValues post (nI NL, nI IL, nI n, nI m, nI q, se, nI t, K, A, B, O, U, ST, DB, TV, TT, G, F) v s sv :=
  ⟨n + 1, xg_fillG_l hw hn hg hp n 0 G (by omega) lt_0⟩
theorem xg_fillF_l {post : SX → Prop} {v s sv : Int32} {g : Nat → Int32} (hw : pg_Wf K A B n) (hn : n ≤ 32) (hg : pg_Ev K A B O v s sv n g) (hp : ∀ a : Nat → Int32, (∀ j, j < n → a j = g j) → post (nI NL, nI IL, nI n, nI m, nI q, se, nI t, K, A, B, O, U, ST, DB, TV, TT, G, a)) : ∀ (d i : Nat) (a : Nat → Int32), i + d = n → (∀ j, j < i → a j = g j) → wX_fillValues__faultyValues_3 post v s sv (nI NL) (nI IL) (nI n) (nI m) (nI q) se (nI t) (d + 1) (nI i) K A B O U ST DB TV TT G a := by
  intro d
  induction d with
  | zero =>
    intro i a hi ha
    exact br_t (nI_le (by omega) (by omega)) (hp a (fun j hj => ha j (by omega)))
  | succ d ih =>
    intro i a hi ha
    have hin : vp_in (nI i) 32 := vp_in_nI (by omega) (by decide)
    have hcl : (nI i).toNatClampNeg = i := nI_clamp (by omega)
    have hup : ∀ x, x = g i → ∀ a', a' = upd a (nI i).toNatClampNeg x → ∀ y, y = nI i + 1 → wX_fillValues__faultyValues_3 post v s sv (nI NL) (nI IL) (nI n) (nI m) (nI q) se (nI t) (d + 1) y K A B O U ST DB TV TT G a' := by
      intro x ex a' ea y ey
      rw [ey, nI_1]
      refine ih (i + 1) a' (by omega) (lt_s (fun j hj => ?_) ?_)
      · rw [ea, hcl, pk_un (by omega)]
        exact ha j hj
      · rw [ea, hcl, pk_us]
        exact ex
    have hgi := (hg i (by omega)).1
    unfold pg_step at hgi
    refine br_f (nI_ge (by omega) (by omega)) ?_
    by_cases h1 : nI i = s
    · rw [if_pos h1] at hgi
      exact br_t h1 ⟨hin, hup sv hgi.symm⟩
    · rw [if_neg h1] at hgi
      refine br_f h1 ⟨hin, ?_⟩
      by_cases h2 : K i = 8
      · rw [if_pos h2] at hgi
        refine br_t (by rw [hcl]; exact h2) ⟨hin, hin, hup _ ?_⟩
        rw [hcl]
        exact hgi.symm
      · rw [if_neg h2] at hgi
        obtain ⟨⟨k, hk, ek⟩, h3⟩ := hw i (by omega)
        rcases h3 with h3 | ⟨⟨a1, ha1, ea1⟩, ⟨b1, hb1, eb1⟩⟩
        · exact absurd h3 h2
        · have hk7 : k ≤ 7 := by
            by_cases e8 : k = 8
            · exact absurd (by rw [ek, e8]; rfl) h2
            · omega
          rw [ek, ea1, eb1, nI_clamp (by omega), nI_clamp (by omega)] at hgi
          have eK : K (nI i).toNatClampNeg = nI k := by rw [hcl]; exact ek
          have eA : A (nI i).toNatClampNeg = nI a1 := by rw [hcl]; exact ea1
          have eB : B (nI i).toNatClampNeg = nI b1 := by rw [hcl]; exact eb1
          have va : a (nI a1).toNatClampNeg = g a1 := by rw [nI_clamp (by omega)]; exact ha a1 ha1
          have vb : a (nI b1).toNatClampNeg = g b1 := by rw [nI_clamp (by omega)]; exact ha b1 hb1
          refine br_f (by rw [hcl]; exact h2) ⟨hin, by rw [eA]; exact vp_in_nI (by omega) (by decide), nm_r (e' := g a1) (by rw [eA]; exact va) ⟨hin, by rw [eB]; exact vp_in_nI (by omega) (by decide), nm_r (e' := g b1) (by rw [eB]; exact vb) ⟨hin, ?_⟩⟩⟩
          rw [eK]
          exact xg_gate hk7 ⟨hin, hup _ hgi.symm⟩
theorem xg_fillF {post : SX → Prop} {v s sv : Int32} {g : Nat → Int32} (hw : pg_Wf K A B n) (hn : n ≤ 32) (hg : pg_Ev K A B O v s sv n g) (hp : ∀ a : Nat → Int32, (∀ j, j < n → a j = g j) → post (nI NL, nI IL, nI n, nI m, nI q, se, nI t, K, A, B, O, U, ST, DB, TV, TT, G, a)) : wpX_fillValues__faultyValues post (nI NL, nI IL, nI n, nI m, nI q, se, nI t, K, A, B, O, U, ST, DB, TV, TT, G, F) v s sv :=
  ⟨n + 1, xg_fillF_l hw hn hg hp n 0 F (by omega) lt_0⟩
end PGE
end
section
section PGF
variable {NL IL n m q t : Nat} {se : Int32} {K A B O U ST DB TV TT G F : Nat → Int32}
/-! the component's search -/
theorem xg_unc_l {post : Int32 → SX → Prop} (hn : n ≤ 32) (h1 : (∃ j, j < n ∧ ¬ U j = 0 ∧ ¬ G j = F j) → post 1 (nI NL, nI IL, nI n, nI m, nI q, se, nI t, K, A, B, O, U, ST, DB, TV, TT, G, F)) (h0 : ¬ (∃ j, j < n ∧ ¬ U j = 0 ∧ ¬ G j = F j) → post 0 (nI NL, nI IL, nI n, nI m, nI q, se, nI t, K, A, B, O, U, ST, DB, TV, TT, G, F)) : ∀ (d i : Nat), i + d = n → (∀ j, j < i → ¬ (¬ U j = 0 ∧ ¬ G j = F j)) → wX_uncovers_28 post (nI NL) (nI IL) (nI n) (nI m) (nI q) se (nI t) K A B O U ST DB TV TT G F (d + 1) (nI i) := by
  intro d
  induction d with
  | zero =>
    intro i hi hb
    refine br_t (nI_le (by omega) (by omega)) (h0 ?_)
    intro ⟨j, hj, z⟩
    exact hb j (by omega) z
  | succ d ih =>
    intro i hi hb
    have hin : vp_in (nI i) 32 := vp_in_nI (by omega) (by decide)
    have hcl : (nI i).toNatClampNeg = i := nI_clamp (by omega)
    have hnx : ¬ (¬ U i = 0 ∧ ¬ G i = F i) → ∀ y, y = nI i + 1 → wX_uncovers_28 post (nI NL) (nI IL) (nI n) (nI m) (nI q) se (nI t) K A B O U ST DB TV TT G F (d + 1) y := by
      intro hz y ey
      rw [ey, nI_1]
      exact ih (i + 1) (by omega) (lt_s hb hz)
    refine br_f (nI_ge (by omega) (by omega)) ⟨hin, ?_⟩
    by_cases u : U i = 0
    · exact br_t (by rw [hcl]; exact u) (hnx (fun z => z.1 u))
    · refine br_f (by rw [hcl]; exact u) ⟨hin, hin, ?_⟩
      by_cases e : G i = F i
      · exact br_t (by rw [hcl]; exact e) (hnx (fun z => z.2 e))
      · exact br_f (by rw [hcl]; exact e) (h1 ⟨i, by omega, u, e⟩)
theorem xg_unc {post : Int32 → SX → Prop} {v f : Nat} (hw : pg_Wf K A B n) (hn : n ≤ 32) (hf : f < 2 * n) (h1 : pg_d K A B O U n v f = true → ∀ G F : Nat → Int32, post 1 (nI NL, nI IL, nI n, nI m, nI q, se, nI t, K, A, B, O, U, ST, DB, TV, TT, G, F)) (h0 : pg_d K A B O U n v f = false → ∀ G F : Nat → Int32, post 0 (nI NL, nI IL, nI n, nI m, nI q, se, nI t, K, A, B, O, U, ST, DB, TV, TT, G, F)) : wpX_uncovers post (nI NL, nI IL, nI n, nI m, nI q, se, nI t, K, A, B, O, U, ST, DB, TV, TT, G, F) (nI v) (nI f) := by
  have e1 : nI f / 2 = nI (f / 2) := pk_div (d := 2) (by omega) (by decide) (by decide)
  have e2 : nI f - nI f / 2 * 2 = nI (f % 2) := pk_rem (d := 2) (by omega) (by decide) (by decide)
  have g0 := pg_run_ev (K := K) (A := A) (B := B) O (nI v) (-1) hw hn pg_b0
  have g1 := pg_run_ev (K := K) (A := A) (B := B) O (nI v) (nI (f / 2)) hw hn (pg_nbit (Nat.mod_lt f (by decide : 0 < 2)))
  unfold wpX_uncovers
  dsimp only
  rw [e2, e1]
  refine xg_fillG hw hn g0 (fun a ha => ?_)
  dsimp only
  refine ⟨by decide, by decide, ?_⟩
  refine xg_fillF hw hn g1 (fun b hb => ?_)
  dsimp only
  refine ⟨n + 1, xg_unc_l hn ?_ ?_ n 0 (by omega) lt_0⟩
  · intro ⟨j, hj, hu, he⟩
    exact h1 (pg_d_t ⟨j, hj, hu, by rw [← ha j hj, ← hb j hj]; exact he⟩) a b
  · intro hz
    exact h0 (pg_d_f (fun ⟨j, hj, hu, he⟩ => hz ⟨j, hj, hu, by rw [ha j hj, hb j hj]; exact he⟩)) a b
theorem xg_luf {post : Int32 → Prop} (hn : n ≤ 32) (h1 : ∀ f, f < 2 * n → ST f = 0 → (∀ j, j < f → ¬ ST j = 0) → post (nI f)) (h0 : (∀ j, j < 2 * n → ¬ ST j = 0) → post (-1)) : wpX_leastUntriedFault post (nI NL, nI IL, nI n, nI m, nI q, se, nI t, K, A, B, O, U, ST, DB, TV, TT, G, F) := by
  have H : ∀ (d i : Nat), i + d = 2 * n → (∀ j, j < i → ¬ ST j = 0) → wX_leastUntriedFault_2 post (nI NL) (nI IL) (nI n) (nI m) (nI q) se (nI t) K A B O U ST DB TV TT G F (d + 1) (nI i) := by
    intro d
    induction d with
    | zero =>
      intro i hi hb
      exact br_t (by rw [pg_2n]; exact nI_le (by omega) (by omega)) (h0 (fun j hj => hb j (by omega)))
    | succ d ih =>
      intro i hi hb
      have hcl : (nI i).toNatClampNeg = i := nI_clamp (by omega)
      refine br_f (by rw [pg_2n]; exact nI_ge (by omega) (by omega)) ⟨vp_in_nI (by omega) (by decide), ?_⟩
      by_cases c : ST i = 0
      · exact br_t (by rw [hcl]; exact c) (h1 i (by omega) c hb)
      · exact br_f (by rw [hcl]; exact c) (nm_r (nI_1 i) (ih (i + 1) (by omega) (lt_s hb c)))
  exact ⟨2 * n + 1, H (2 * n) 0 (by omega) lt_0⟩
theorem xg_ldv {post : Int32 → SX → Prop} {f M : Nat} (hw : pg_Wf K A B n) (hn : n ≤ 32) (hf : f < 2 * n) (hM : (1 : Int32) <<< (nI m &&& 31) = nI M) (hM2 : M ≤ 1024)
    (h1 : ∀ v, v < M → pg_d K A B O U n v f = true → (∀ w, w < v → pg_d K A B O U n w f = false) → ∀ G F : Nat → Int32, post (nI v) (nI NL, nI IL, nI n, nI m, nI q, se, nI t, K, A, B, O, U, ST, DB, TV, TT, G, F)) (h0 : (∀ w, w < M → pg_d K A B O U n w f = false) → ∀ G F : Nat → Int32, post (-1) (nI NL, nI IL, nI n, nI m, nI q, se, nI t, K, A, B, O, U, ST, DB, TV, TT, G, F)) : wpX_leastDetectingVector post (nI NL, nI IL, nI n, nI m, nI q, se, nI t, K, A, B, O, U, ST, DB, TV, TT, G, F) (nI f) := by
  have H : ∀ (d i : Nat) (G F : Nat → Int32), i + d = M → (∀ w, w < i → pg_d K A B O U n w f = false) → wX_leastDetectingVector_2 post (nI f) (d + 1) (nI i) (nI NL) (nI IL) (nI n) (nI m) (nI q) se (nI t) K A B O U ST DB TV TT G F := by
    intro d
    induction d with
    | zero =>
      intro i G F hi hb
      exact br_t (by rw [hM]; exact nI_le (by omega) (by omega)) (h0 (fun j hj => hb j (by omega)) G F)
    | succ d ih =>
      intro i G F hi hb
      refine br_f (by rw [hM]; exact nI_ge (by omega) (by omega)) (xg_unc hw hn hf (fun hd G' F' => ?_) (fun hd G' F' => ?_))
      · exact br_f (by decide) (h1 i (by omega) hd hb G' F')
      · exact br_t rfl (nm_r (nI_1 i) (ih (i + 1) G' F' (by omega) (lt_s hb hd)))
  exact ⟨M + 1, H M 0 G F (by omega) lt_0⟩
theorem pg_nz {st : Nat → Int32} {dt : Nat → Bool} {i : Nat} (h : dt i = false) : ¬ (st i = 0 ∧ dt i = true) := by
  intro z
  rw [h] at z
  exact absurd z.2 (by decide)
theorem xg_rec_l {post : SX → Prop} {v : Nat} {tt : Int32} (hw : pg_Wf K A B n) (hn : n ≤ 32) (h : ∀ G F : Nat → Int32, post (nI NL, nI IL, nI n, nI m, nI q, se, nI t, K, A, B, O, U, (pg_st ST (pg_d K A B O U n v) (2 * n)), (pg_db ST DB (pg_d K A B O U n v) tt (2 * n)), TV, TT, G, F)) : ∀ (d i : Nat) (G F : Nat → Int32), i + d = 2 * n → wX_recordTest_32 post (nI v) tt (d + 1) (nI i) (nI NL) (nI IL) (nI n) (nI m) (nI q) se (nI t) K A B O U (pg_st ST (pg_d K A B O U n v) i) (pg_db ST DB (pg_d K A B O U n v) tt i) TV TT G F := by
  intro d
  induction d with
  | zero =>
    intro i G F hi
    have e : i = 2 * n := by omega
    subst e
    exact br_t (by rw [pg_2n]; exact Int32.le_refl _) (h G F)
  | succ d ih =>
    intro i G F hi
    have hin : vp_in (nI i) 64 := vp_in_nI (by omega) (by decide)
    have hcl : (nI i).toNatClampNeg = i := nI_clamp (by omega)
    refine br_f (by rw [pg_2n]; exact nI_ge (by omega) (by omega)) ⟨hin, ?_⟩
    by_cases c : ST i = 0
    · refine br_t (by rw [hcl, pg_st_i]; exact c) (xg_unc hw hn (by omega) (fun hd G' F' => ?_) (fun hd G' F' => ?_))
      · exact br_f (by decide) ⟨hin, nm_r (e' := pg_st ST (pg_d K A B O U n v) (i + 1)) (by rw [hcl]; exact pg_st_t c hd) ⟨hin, nm_r (e' := pg_db ST DB (pg_d K A B O U n v) tt (i + 1)) (by rw [hcl]; exact pg_db_t c hd) (nm_r (nI_1 i) (ih (i + 1) G' F' (by omega)))⟩⟩
      · have hz : ¬ (ST i = 0 ∧ pg_d K A B O U n v i = true) := pg_nz hd
        refine br_t rfl (nm_r (nI_1 i) ?_)
        rw [pg_st_n hz, pg_db_n hz]
        exact ih (i + 1) G' F' (by omega)
    · have hz : ¬ (ST i = 0 ∧ pg_d K A B O U n v i = true) := fun z => c z.1
      refine br_f (by rw [hcl, pg_st_i]; exact c) (nm_r (nI_1 i) ?_)
      rw [pg_st_n hz, pg_db_n hz]
      exact ih (i + 1) G F (by omega)
theorem xg_rec {post : SX → Prop} {v f : Nat} (hw : pg_Wf K A B n) (hn : n ≤ 32) (ht : t < 64) (h : ∀ G F : Nat → Int32, post (nI NL, nI IL, nI n, nI m, nI q, se, nI (t + 1), K, A, B, O, U, (pg_st ST (pg_d K A B O U n v) (2 * n)), (pg_db ST DB (pg_d K A B O U n v) (nI t) (2 * n)), (upd TV t (nI v)), (upd TT t (nI f)), G, F)) : wpX_recordTest post (nI NL, nI IL, nI n, nI m, nI q, se, nI t, K, A, B, O, U, ST, DB, TV, TT, G, F) (nI v) (nI f) := by
  have hin : vp_in (nI t) 64 := vp_in_nI ht (by decide)
  have hcl : (nI t).toNatClampNeg = t := nI_clamp (by omega)
  have H := xg_rec_l (NL := NL) (IL := IL) (m := m) (q := q) (se := se) (t := t + 1) (TV := upd TV t (nI v)) (TT := upd TT t (nI f)) hw hn h (2 * n) 0 G F (by omega)
  rw [pg_st_0, pg_db_0] at H
  exact ⟨hin, nm_r (e' := upd TV t (nI v)) (by rw [hcl]) ⟨hin, nm_r (e' := upd TT t (nI f)) (by rw [hcl]) (nm_r (nI_1 t) ⟨2 * n + 1, H⟩)⟩⟩
theorem xg_sim_l {post : Int32 → SX → Prop} {v : Nat} (hw : pg_Wf K A B n) (hn : n ≤ 32) (h : ∀ G F : Nat → Int32, post (nI (pg_cnt (pg_d K A B O U n v) (2 * n))) (nI NL, nI IL, nI n, nI m, nI q, se, nI t, K, A, B, O, U, ST, DB, TV, TT, G, F)) : ∀ (d i : Nat) (G F : Nat → Int32), i + d = 2 * n → wX_simulate_14 post (nI v) (d + 1) (nI (pg_cnt (pg_d K A B O U n v) i)) (nI i) (nI NL) (nI IL) (nI n) (nI m) (nI q) se (nI t) K A B O U ST DB TV TT G F := by
  intro d
  induction d with
  | zero =>
    intro i G F hi
    have e : i = 2 * n := by omega
    subst e
    exact br_t (by rw [pg_2n]; exact Int32.le_refl _) (h G F)
  | succ d ih =>
    intro i G F hi
    refine br_f (by rw [pg_2n]; exact nI_ge (by omega) (by omega)) (xg_unc hw hn (by omega) (fun hd G' F' => ?_) (fun hd G' F' => ?_))
    · exact br_f (by decide) (nm_r (e' := nI (pg_cnt (pg_d K A B O U n v) (i + 1))) (by rw [pg_cnt_t hd, nI_1]) (nm_r (nI_1 i) (ih (i + 1) G' F' (by omega))))
    · have H := ih (i + 1) G' F' (by omega)
      rw [pg_cnt_f hd] at H
      exact br_t rfl (nm_r (nI_1 i) H)
end PGF
end
section
section PGG
variable {NL IL n m t : Nat} {se : Int32} {K A B O U ST DB TV TT V W : Nat → Int32}
/-! the reference's evaluation -/
/-- how the reference's fault names the stuck node and its value -/
def yg_Fa (fa s sv : Int32) : Prop := (fa = -1 ∧ s = -1) ∨ (∃ f : Nat, f < 64 ∧ fa = nI f ∧ s = nI (f / 2) ∧ sv = nI (f % 2))
theorem yg_191 {post : SY → Prop} {J : Int32 → (Nat → Int32) → (Nat → Int32) → (Nat → Int32) → (Nat → Int32) → (Nat → Int32) → (Nat → Int32) → (Nat → Int32) → (Nat → Int32) → (Nat → Int32) → (Nat → Int32) → (Nat → Int32) → Prop} {v fa s sv x y : Int32} {i : Nat} (hi : i < 32) (hfa : yg_Fa fa s sv) (hy : y = if nI i = s then sv else x) (h : J (nI (i + 1)) K A B O U ST DB TV TT (upd V i y) W) : wY_run_191 post J v fa (nI i) x (nI NL) (nI IL) (nI n) (nI m) se (nI t) K A B O U ST DB TV TT V W := by
  have hin : vp_in (nI i) 32 := vp_in_nI hi (by decide)
  have hcl : (nI i).toNatClampNeg = i := nI_clamp (by omega)
  rcases hfa with ⟨rfl, rfl⟩ | ⟨f, hf, rfl, rfl, rfl⟩
  · rw [if_neg (pg_n1 (by omega))] at hy
    exact br_t (by decide) ⟨hin, nm_r (e' := upd V i y) (by rw [hcl, hy]) (nm_r (nI_1 i) h)⟩
  · have e1 : nI f / 2 = nI (f / 2) := pk_div (d := 2) (by omega) (by decide) (by decide)
    have e2 : nI f - nI f / 2 * 2 = nI (f % 2) := pk_rem (d := 2) (by omega) (by decide) (by decide)
    refine br_f (nI_pos (by omega)) ⟨by decide, ?_⟩
    by_cases c : nI i = nI (f / 2)
    · rw [if_pos c] at hy
      refine br_t (by rw [e1]; exact c.symm) ⟨by decide, nm_r (e' := y) (by rw [e2]; exact hy.symm) ⟨hin, nm_r (e' := upd V i y) (by rw [hcl]) (nm_r (nI_1 i) h)⟩⟩
    · rw [if_neg c] at hy
      exact br_f (by rw [e1]; exact fun z => c z.symm) ⟨hin, nm_r (e' := upd V i y) (by rw [hcl, hy]) (nm_r (nI_1 i) h)⟩
theorem yg_run_l {post : SY → Prop} {v fa s sv : Int32} {g : Nat → Int32} (hw : pg_Wf K A B n) (hn : n ≤ 32) (hg : pg_Ev K A B O v s sv n g) (hfa : yg_Fa fa s sv) (hp : ∀ a : Nat → Int32, (∀ j, j < n → a j = g j) → post (nI NL, nI IL, nI n, nI m, se, nI t, K, A, B, O, U, ST, DB, TV, TT, a, W)) : ∀ (d i : Nat) (a : Nat → Int32), i + d = n → (∀ j, j < i → a j = g j) → wY_run_2 post v fa (nI NL) (nI IL) (nI n) (nI m) se (nI t) (d + 1) (nI i) K A B O U ST DB TV TT a W := by
  intro d
  induction d with
  | zero =>
    intro i a hi ha
    exact br_t (nI_le (by omega) (by omega)) (hp a (fun j hj => ha j (by omega)))
  | succ d ih =>
    intro i a hi ha
    have hin : vp_in (nI i) 32 := vp_in_nI (by omega) (by decide)
    have hcl : (nI i).toNatClampNeg = i := nI_clamp (by omega)
    have hgi := (hg i (by omega)).1
    unfold pg_step at hgi
    have hup : ∀ x, x = (if K i = 8 then (v >>> (O i &&& 31)) &&& 1 else pg_gate (K i) (g (A i).toNatClampNeg) (g (B i).toNatClampNeg)) → wY_run_191 post (wY_run_2 post v fa (nI NL) (nI IL) (nI n) (nI m) se (nI t) (d + 1)) v fa (nI i) x (nI NL) (nI IL) (nI n) (nI m) se (nI t) K A B O U ST DB TV TT a W := by
      intro x ex
      refine yg_191 (y := g i) (by omega) hfa (by rw [ex]; exact hgi) ?_
      refine ih (i + 1) _ (by omega) (lt_s (fun j hj => ?_) ?_)
      · rw [pk_un (by omega)]
        exact ha j hj
      · rw [pk_us]
    refine br_f (nI_ge (by omega) (by omega)) ⟨hin, ?_⟩
    by_cases h2 : K i = 8
    · rw [if_pos h2] at hup
      refine nm_r (e' := 8) (by rw [hcl]; exact h2) (br_t rfl ⟨hin, nm_r (e' := (v >>> (O i &&& 31)) &&& 1) (by rw [hcl]) (hup _ rfl)⟩)
    · rw [if_neg h2] at hup
      obtain ⟨⟨k, hk, ek⟩, h3⟩ := hw i (by omega)
      rcases h3 with h3 | ⟨⟨a1, ha1, ea1⟩, ⟨b1, hb1, eb1⟩⟩
      · exact absurd h3 h2
      · have hk7 : k ≤ 7 := by
          by_cases e8 : k = 8
          · exact absurd (by rw [ek, e8]; rfl) h2
          · omega
        rw [ek, ea1, eb1, nI_clamp (by omega), nI_clamp (by omega)] at hup
        have hk8 : ¬ nI k = 8 := by rw [← ek]; exact h2
        have eA : A (nI i).toNatClampNeg = nI a1 := by rw [hcl]; exact ea1
        have eB : B (nI i).toNatClampNeg = nI b1 := by rw [hcl]; exact eb1
        have va : a (nI a1).toNatClampNeg &&& 1 = g a1 := by rw [nI_clamp (by omega), ha a1 ha1]; exact pg_a1 (hg a1 (by omega)).2
        have vb : a (nI b1).toNatClampNeg &&& 1 = g b1 := by rw [nI_clamp (by omega), ha b1 hb1]; exact pg_a1 (hg b1 (by omega)).2
        refine nm_r (e' := nI k) (by rw [hcl]; exact ek) (br_f hk8 ⟨hin, by rw [eA]; exact vp_in_nI (by omega) (by decide), nm_r (e' := g a1) (by rw [eA]; exact va) ⟨hin, by rw [eB]; exact vp_in_nI (by omega) (by decide), nm_r (e' := g b1) (by rw [eB]; exact vb) ?_⟩⟩)
        clear hk8 hk ek h2 eA eB va vb
        rcases pg_k8 hk7 with rfl | rfl | rfl | rfl | rfl | rfl | rfl | rfl
        · exact br_t (by decide) (hup _ (pg_g0 _ _).symm)
        · exact br_f (by decide) (br_t (by decide) (nm_e (hup _ (pg_g1 _ _).symm)))
        · exact br_f (by decide) (br_f (by decide) (br_t (by decide) (nm_e (hup _ (pg_g2 _ _).symm))))
        · exact br_f (by decide) (br_f (by decide) (br_f (by decide) (br_t (by decide) (nm_e (hup _ (pg_g3 _ _).symm)))))
        · exact br_f (by decide) (br_f (by decide) (br_f (by decide) (br_f (by decide) (br_t (by decide) (nm_e (hup _ (pg_g4 _ _).symm))))))
        · exact br_f (by decide) (br_f (by decide) (br_f (by decide) (br_f (by decide) (br_f (by decide) (br_t (by decide) (nm_e (hup _ (pg_g5 _ _).symm)))))))
        · exact br_f (by decide) (br_f (by decide) (br_f (by decide) (br_f (by decide) (br_f (by decide) (br_f (by decide) (br_t (by decide) (nm_e (hup _ (pg_g6 _ _).symm))))))))
        · exact br_f (by decide) (br_f (by decide) (br_f (by decide) (br_f (by decide) (br_f (by decide) (br_f (by decide) (br_f (by decide) (nm_e (hup _ (pg_g7 _ _).symm))))))))
theorem yg_run {post : SY → Prop} {v fa s sv : Int32} {g : Nat → Int32} (hw : pg_Wf K A B n) (hn : n ≤ 32) (hg : pg_Ev K A B O v s sv n g) (hfa : yg_Fa fa s sv) (hp : ∀ a : Nat → Int32, (∀ j, j < n → a j = g j) → post (nI NL, nI IL, nI n, nI m, se, nI t, K, A, B, O, U, ST, DB, TV, TT, a, W)) : wpY_run post (nI NL, nI IL, nI n, nI m, se, nI t, K, A, B, O, U, ST, DB, TV, TT, V, W) v fa :=
  ⟨n + 1, yg_run_l hw hn hg hfa hp n 0 V (by omega) lt_0⟩
/-! the reference's search -/
theorem yg_66 {post : Int32 → SY → Prop} (hn : n ≤ 32) (h1 : (∃ j, j < n ∧ ¬ U j = 0 ∧ ¬ W j = V j) → post 1 (nI NL, nI IL, nI n, nI m, se, nI t, K, A, B, O, U, ST, DB, TV, TT, V, W)) (h0 : ¬ (∃ j, j < n ∧ ¬ U j = 0 ∧ ¬ W j = V j) → post 0 (nI NL, nI IL, nI n, nI m, se, nI t, K, A, B, O, U, ST, DB, TV, TT, V, W)) : ∀ (d i : Nat), i + d = n → (∀ j, j < i → ¬ (¬ U j = 0 ∧ ¬ W j = V j)) → wY_detects_66 post (nI NL) (nI IL) (nI n) (nI m) se (nI t) K A B O U ST DB TV TT V W (d + 1) (nI i) := by
  intro d
  induction d with
  | zero =>
    intro i hi hb
    refine br_t (nI_le (by omega) (by omega)) (h0 ?_)
    intro ⟨j, hj, z⟩
    exact hb j (by omega) z
  | succ d ih =>
    intro i hi hb
    have hin : vp_in (nI i) 32 := vp_in_nI (by omega) (by decide)
    have hcl : (nI i).toNatClampNeg = i := nI_clamp (by omega)
    have hnx : ¬ (¬ U i = 0 ∧ ¬ W i = V i) → ∀ y, y = nI i + 1 → wY_detects_66 post (nI NL) (nI IL) (nI n) (nI m) se (nI t) K A B O U ST DB TV TT V W (d + 1) y := by
      intro hz y ey
      rw [ey, nI_1]
      exact ih (i + 1) (by omega) (lt_s hb hz)
    refine br_f (nI_ge (by omega) (by omega)) ⟨hin, ?_⟩
    by_cases u : U i = 0
    · exact br_t (by rw [hcl]; exact u) (hnx (fun z => z.1 u))
    · refine br_f (by rw [hcl]; exact u) ⟨hin, hin, ?_⟩
      by_cases e : W i = V i
      · exact br_t (by rw [hcl]; exact e) (hnx (fun z => z.2 e))
      · exact br_f (by rw [hcl]; exact e) (h1 ⟨i, by omega, u, e⟩)
theorem yg_32 {post : Int32 → SY → Prop} {v f : Nat} (hw : pg_Wf K A B n) (hn : n ≤ 32) (hf : f < 2 * n) (hV : ∀ j, j < n → V j = pg_run K A B O (nI v) (-1) 0 n j) (h1 : pg_d K A B O U n v f = true → ∀ V W : Nat → Int32, post 1 (nI NL, nI IL, nI n, nI m, se, nI t, K, A, B, O, U, ST, DB, TV, TT, V, W)) (h0 : pg_d K A B O U n v f = false → ∀ V W : Nat → Int32, post 0 (nI NL, nI IL, nI n, nI m, se, nI t, K, A, B, O, U, ST, DB, TV, TT, V, W)) : ∀ (d i : Nat) (b : Nat → Int32), i + d = n → (∀ j, j < i → b j = V j) → wY_detects_32 post (nI v) (nI f) (nI NL) (nI IL) (nI n) (nI m) se (nI t) (d + 1) (nI i) K A B O U ST DB TV TT V b := by
  intro d
  induction d with
  | zero =>
    intro i b hi hb
    have g1 := pg_run_ev (K := K) (A := A) (B := B) O (nI v) (nI (f / 2)) hw hn (pg_nbit (Nat.mod_lt f (by decide : 0 < 2)))
    refine br_t (nI_le (by omega) (by omega)) (yg_run hw hn g1 (Or.inr ⟨f, by omega, rfl, rfl, rfl⟩) (fun a ha => ?_))
    dsimp only
    refine ⟨n + 1, yg_66 hn ?_ ?_ n 0 (by omega) lt_0⟩
    · intro ⟨j, hj, hu, he⟩
      exact h1 (pg_d_t ⟨j, hj, hu, by rw [← ha j hj, ← hV j hj, ← hb j (by omega)]; exact he⟩) a b
    · intro hz
      exact h0 (pg_d_f (fun ⟨j, hj, hu, he⟩ => hz ⟨j, hj, hu, by rw [hb j (by omega), hV j hj, ha j hj]; exact he⟩)) a b
  | succ d ih =>
    intro i b hi hb
    have hin : vp_in (nI i) 32 := vp_in_nI (by omega) (by decide)
    have hcl : (nI i).toNatClampNeg = i := nI_clamp (by omega)
    refine br_f (nI_ge (by omega) (by omega)) ⟨hin, hin, nm_r (e' := upd b i (V i)) (by rw [hcl]) (nm_r (nI_1 i) ?_)⟩
    refine ih (i + 1) _ (by omega) (lt_s (fun j hj => ?_) ?_)
    · rw [pk_un (by omega)]
      exact hb j hj
    · rw [pk_us]
theorem yg_det {post : Int32 → SY → Prop} {v f M : Nat} (hw : pg_Wf K A B n) (hn : n ≤ 32) (hM : (1 : Int32) <<< (nI m &&& 31) = nI M) (hM2 : M ≤ 1024) (hv : v < M) (hf : f < 2 * n) (h1 : pg_d K A B O U n v f = true → ∀ V W : Nat → Int32, post 1 (nI NL, nI IL, nI n, nI m, se, nI t, K, A, B, O, U, ST, DB, TV, TT, V, W)) (h0 : pg_d K A B O U n v f = false → ∀ V W : Nat → Int32, post 0 (nI NL, nI IL, nI n, nI m, se, nI t, K, A, B, O, U, ST, DB, TV, TT, V, W)) : wpY_detects post (nI NL, nI IL, nI n, nI m, se, nI t, K, A, B, O, U, ST, DB, TV, TT, V, W) (nI v) (nI f) := by
  unfold wpY_detects
  dsimp only
  refine yg_vecT hM hM2 hv (br_f (by decide) (pg_sr (pg_2n n) hf (by omega) ?_))
  have g0 := pg_run_ev (K := K) (A := A) (B := B) O (nI v) (-1) hw hn pg_b0
  refine yg_run hw hn g0 (Or.inl ⟨rfl, rfl⟩) (fun a ha => ?_)
  dsimp only
  exact ⟨n + 1, yg_32 hw hn hf ha h1 h0 n 0 W (by omega) lt_0⟩
theorem yg_sim_l {post : Int32 → SY → Prop} {v M : Nat} (hw : pg_Wf K A B n) (hn : n ≤ 32) (hM : (1 : Int32) <<< (nI m &&& 31) = nI M) (hM2 : M ≤ 1024) (hv : v < M) (h : ∀ V W : Nat → Int32, post (nI (pg_cnt (pg_d K A B O U n v) (2 * n))) (nI NL, nI IL, nI n, nI m, se, nI t, K, A, B, O, U, ST, DB, TV, TT, V, W)) : ∀ (d i : Nat) (V W : Nat → Int32), i + d = 2 * n → wY_simulate_14 post (nI v) (d + 1) (nI (pg_cnt (pg_d K A B O U n v) i)) (nI i) (nI NL) (nI IL) (nI n) (nI m) se (nI t) K A B O U ST DB TV TT V W := by
  intro d
  induction d with
  | zero =>
    intro i V W hi
    have e : i = 2 * n := by omega
    subst e
    exact br_t (by rw [pg_2n]; exact Int32.le_refl _) (h V W)
  | succ d ih =>
    intro i V W hi
    refine br_f (by rw [pg_2n]; exact nI_ge (by omega) (by omega)) (yg_det hw hn hM hM2 hv (by omega) (fun hd V' W' => ?_) (fun hd V' W' => ?_))
    · exact br_f (by decide) (nm_r (e' := nI (pg_cnt (pg_d K A B O U n v) (i + 1))) (by rw [pg_cnt_t hd, nI_1]) (nm_r (nI_1 i) (ih (i + 1) V' W' (by omega))))
    · have H := ih (i + 1) V' W' (by omega)
      rw [pg_cnt_f hd] at H
      exact br_t rfl (nm_r (nI_1 i) H)
end PGG
end
section
section PGH
variable {NL IL n m t : Nat} {se : Int32} {K A B O U ST DB TV TT V W : Nat → Int32}
/-! the reference's nextTest -/
theorem yg_151 {post : Int32 → SY → Prop} {v M : Nat} {tt : Int32} (hw : pg_Wf K A B n) (hn : n ≤ 32) (hM : (1 : Int32) <<< (nI m &&& 31) = nI M) (hM2 : M ≤ 1024) (hv : v < M) (h : ∀ V W : Nat → Int32, post (nI v) (nI NL, nI IL, nI n, nI m, se, nI t, K, A, B, O, U, (pg_st ST (pg_d K A B O U n v) (2 * n)), (pg_db ST DB (pg_d K A B O U n v) tt (2 * n)), TV, TT, V, W)) : ∀ (d i : Nat) (V W : Nat → Int32), i + d = 2 * n → wY_nextTest_151 post (nI v) tt (d + 1) (nI i) (nI NL) (nI IL) (nI n) (nI m) se (nI t) K A B O U (pg_st ST (pg_d K A B O U n v) i) (pg_db ST DB (pg_d K A B O U n v) tt i) TV TT V W := by
  intro d
  induction d with
  | zero =>
    intro i V W hi
    have e : i = 2 * n := by omega
    subst e
    exact br_t (by rw [pg_2n]; exact Int32.le_refl _) (h V W)
  | succ d ih =>
    intro i V W hi
    have hin : vp_in (nI i) 64 := vp_in_nI (by omega) (by decide)
    have hcl : (nI i).toNatClampNeg = i := nI_clamp (by omega)
    refine br_f (by rw [pg_2n]; exact nI_ge (by omega) (by omega)) ⟨hin, ?_⟩
    by_cases c : ST i = 0
    · refine br_t (by rw [hcl, pg_st_i]; exact c) (yg_det hw hn hM hM2 hv (by omega) (fun hd V' W' => ?_) (fun hd V' W' => ?_))
      · exact br_f (by decide) ⟨hin, nm_r (e' := pg_st ST (pg_d K A B O U n v) (i + 1)) (by rw [hcl]; exact pg_st_t c hd) ⟨hin, nm_r (e' := pg_db ST DB (pg_d K A B O U n v) tt (i + 1)) (by rw [hcl]; exact pg_db_t c hd) (nm_r (nI_1 i) (ih (i + 1) V' W' (by omega)))⟩⟩
      · have hz : ¬ (ST i = 0 ∧ pg_d K A B O U n v i = true) := pg_nz hd
        refine br_t rfl (nm_r (nI_1 i) ?_)
        rw [pg_st_n hz, pg_db_n hz]
        exact ih (i + 1) V' W' (by omega)
    · have hz : ¬ (ST i = 0 ∧ pg_d K A B O U n v i = true) := fun z => c z.1
      refine br_f (by rw [hcl, pg_st_i]; exact c) (nm_r (nI_1 i) ?_)
      rw [pg_st_n hz, pg_db_n hz]
      exact ih (i + 1) V W (by omega)
/-- the vector is found: the loop runs on to its end, then the test is recorded -/
theorem yg_64a {post : Int32 → SY → Prop} {v f M : Nat} (hw : pg_Wf K A B n) (hn : n ≤ 32) (hM : (1 : Int32) <<< (nI m &&& 31) = nI M) (hM2 : M ≤ 1024) (hv : v < M) (ht : t < 64) (h : ∀ V W : Nat → Int32, post (nI v) (nI NL, nI IL, nI n, nI m, se, nI (t + 1), K, A, B, O, U, (pg_st ST (pg_d K A B O U n v) (2 * n)), (pg_db ST DB (pg_d K A B O U n v) (nI t) (2 * n)), (upd TV t (nI v)), (upd TT t (nI f)), V, W)) : ∀ (d i : Nat) (V W : Nat → Int32), i + d = M → wY_nextTest_64 post (nI f) (nI M) (d + 1) (nI v) (nI i) (nI NL) (nI IL) (nI n) (nI m) se (nI t) K A B O U ST DB TV TT V W := by
  intro d
  induction d with
  | zero =>
    intro i V W hi
    have hin : vp_in (nI t) 64 := vp_in_nI ht (by decide)
    have hcl : (nI t).toNatClampNeg = t := nI_clamp (by omega)
    have H := yg_151 (NL := NL) (IL := IL) (se := se) (t := t + 1) (TV := upd TV t (nI v)) (TT := upd TT t (nI f)) hw hn hM hM2 hv h (2 * n) 0 V W (by omega)
    rw [pg_st_0, pg_db_0] at H
    exact br_t (nI_le (by omega) (by omega)) (br_t (nI_pos' (by omega)) (br_t (nI_lt (b := 64) ht (by decide)) ⟨hin, nm_r (e' := upd TV t (nI v)) (by rw [hcl]) ⟨hin, nm_r (e' := upd TT t (nI f)) (by rw [hcl]) (nm_r (nI_1 t) ⟨2 * n + 1, H⟩)⟩⟩))
  | succ d ih =>
    intro i V W hi
    exact br_f (nI_ge (by omega) (by omega)) (br_t (nI_pos' (by omega)) (nm_r (nI_1 i) (ih (i + 1) V W (by omega))))
/-- the least vector is v -/
theorem yg_64b {post : Int32 → SY → Prop} {v f M : Nat} (hw : pg_Wf K A B n) (hn : n ≤ 32) (hM : (1 : Int32) <<< (nI m &&& 31) = nI M) (hM2 : M ≤ 1024) (hv : v < M) (hf : f < 2 * n) (ht : t < 64) (hd : pg_d K A B O U n v f = true) (hl : ∀ w, w < v → pg_d K A B O U n w f = false) (h : ∀ V W : Nat → Int32, post (nI v) (nI NL, nI IL, nI n, nI m, se, nI (t + 1), K, A, B, O, U, (pg_st ST (pg_d K A B O U n v) (2 * n)), (pg_db ST DB (pg_d K A B O U n v) (nI t) (2 * n)), (upd TV t (nI v)), (upd TT t (nI f)), V, W)) : ∀ (d i : Nat) (V W : Nat → Int32), i + d = M → i ≤ v → wY_nextTest_64 post (nI f) (nI M) (d + 1) (-1) (nI i) (nI NL) (nI IL) (nI n) (nI m) se (nI t) K A B O U ST DB TV TT V W := by
  intro d
  induction d with
  | zero =>
    intro i V W hi hiv
    omega
  | succ d ih =>
    intro i V W hi hiv
    refine br_f (nI_ge (by omega) (by omega)) (br_f (by decide) (yg_det hw hn hM hM2 (by omega) hf (fun hd' V' W' => ?_) (fun hd' V' W' => ?_)))
    · have e : i = v := by
        by_cases e : i = v
        · exact e
        · rw [hl i (by omega)] at hd'
          exact absurd hd' (by decide)
      subst e
      exact br_f (by decide) (nm_r (nI_1 i) (yg_64a hw hn hM hM2 hv ht h d (i + 1) V' W' (by omega)))
    · have e : i ≠ v := by
        intro e
        rw [e, hd] at hd'
        exact absurd hd' (by decide)
      exact br_t rfl (nm_r (nI_1 i) (ih (i + 1) V' W' (by omega) (by omega)))
/-- no vector -/
theorem yg_64n {post : Int32 → SY → Prop} {f M : Nat} (hw : pg_Wf K A B n) (hn : n ≤ 32) (hM : (1 : Int32) <<< (nI m &&& 31) = nI M) (hM2 : M ≤ 1024) (hf : f < 2 * n) (hl : ∀ w, w < M → pg_d K A B O U n w f = false) (h : ∀ V W : Nat → Int32, post (-1) (nI NL, nI IL, nI n, nI m, se, nI t, K, A, B, O, U, (upd ST f 2), DB, TV, TT, V, W)) : ∀ (d i : Nat) (V W : Nat → Int32), i + d = M → wY_nextTest_64 post (nI f) (nI M) (d + 1) (-1) (nI i) (nI NL) (nI IL) (nI n) (nI m) se (nI t) K A B O U ST DB TV TT V W := by
  intro d
  induction d with
  | zero =>
    intro i V W hi
    have hcl : (nI f).toNatClampNeg = f := nI_clamp (by omega)
    exact br_t (nI_le (by omega) (by omega)) (br_f (by decide) ⟨vp_in_nI (by omega) (by decide), nm_r (e' := upd ST f 2) (by rw [hcl]) (h V W)⟩)
  | succ d ih =>
    intro i V W hi
    refine br_f (nI_ge (by omega) (by omega)) (br_f (by decide) (yg_det hw hn hM hM2 (by omega) hf (fun hd' V' W' => ?_) (fun hd' V' W' => ?_)))
    · rw [hl i (by omega)] at hd'
      exact absurd hd' (by decide)
    · exact br_t rfl (nm_r (nI_1 i) (ih (i + 1) V' W' (by omega)))
/-- the fault is found: the loop runs on to its end -/
theorem yg_14a {post : Int32 → SY → Prop} {f M : Nat} (hn : n ≤ 32) (hf : f < 2 * n) (hM : (1 : Int32) <<< (nI m &&& 31) = nI M) (h : wY_nextTest_64 post (nI f) (nI M) (M + 1) (-1) (nI 0) (nI NL) (nI IL) (nI n) (nI m) se (nI t) K A B O U ST DB TV TT V W) : ∀ (d i : Nat), i + d = 2 * n → wY_nextTest_14 post (nI NL) (nI IL) (nI n) (nI m) se (nI t) K A B O U ST DB TV TT V W (d + 1) (nI f) (nI i) := by
  intro d
  induction d with
  | zero =>
    intro i hi
    exact br_t (by rw [pg_2n]; exact nI_le (by omega) (by omega)) (br_t (nI_pos' (by omega)) (nm_r (e' := nI M) hM ⟨M + 1, h⟩))
  | succ d ih =>
    intro i hi
    exact br_f (by rw [pg_2n]; exact nI_ge (by omega) (by omega)) (br_t (nI_pos' (by omega)) (nm_r (nI_1 i) (ih (i + 1) (by omega))))
theorem yg_14b {post : Int32 → SY → Prop} {f M : Nat} (hn : n ≤ 32) (hf : f < 2 * n) (hM : (1 : Int32) <<< (nI m &&& 31) = nI M) (h0 : ST f = 0) (hl : ∀ j, j < f → ¬ ST j = 0) (h : wY_nextTest_64 post (nI f) (nI M) (M + 1) (-1) (nI 0) (nI NL) (nI IL) (nI n) (nI m) se (nI t) K A B O U ST DB TV TT V W) : ∀ (d i : Nat), i + d = 2 * n → i ≤ f → wY_nextTest_14 post (nI NL) (nI IL) (nI n) (nI m) se (nI t) K A B O U ST DB TV TT V W (d + 1) (-1) (nI i) := by
  intro d
  induction d with
  | zero =>
    intro i hi hif
    omega
  | succ d ih =>
    intro i hi hif
    have hcl : (nI i).toNatClampNeg = i := nI_clamp (by omega)
    refine br_f (by rw [pg_2n]; exact nI_ge (by omega) (by omega)) (br_f (by decide) ⟨vp_in_nI (by omega) (by decide), ?_⟩)
    by_cases e : i = f
    · subst e
      exact br_t (by rw [hcl]; exact h0) (nm_r (nI_1 i) (yg_14a hn hf hM h d (i + 1) (by omega)))
    · exact br_f (by rw [hcl]; exact hl i (by omega)) (nm_r (nI_1 i) (ih (i + 1) (by omega) (by omega)))
theorem yg_14n {post : Int32 → SY → Prop} (hn : n ≤ 32) (hl : ∀ j, j < 2 * n → ¬ ST j = 0) (h : post (-2) (nI NL, nI IL, nI n, nI m, se, nI t, K, A, B, O, U, ST, DB, TV, TT, V, W)) : ∀ (d i : Nat), i + d = 2 * n → wY_nextTest_14 post (nI NL) (nI IL) (nI n) (nI m) se (nI t) K A B O U ST DB TV TT V W (d + 1) (-1) (nI i) := by
  intro d
  induction d with
  | zero =>
    intro i hi
    exact br_t (by rw [pg_2n]; exact nI_le (by omega) (by omega)) (br_f (by decide) h)
  | succ d ih =>
    intro i hi
    have hcl : (nI i).toNatClampNeg = i := nI_clamp (by omega)
    exact br_f (by rw [pg_2n]; exact nI_ge (by omega) (by omega)) (br_f (by decide) ⟨vp_in_nI (by omega) (by decide), br_f (by rw [hcl]; exact hl i (by omega)) (nm_r (nI_1 i) (ih (i + 1) (by omega)))⟩)
/-! seal: both loops -/
theorem xg_seal_l {q : Nat} {G F : Nat → Int32} {post : Int32 → SX → Prop} : ∀ (d i : Nat) (ST DB : Nat → Int32), i + d = 64 → (∀ st db : Nat → Int32, (∀ j, j < i → st j = ST j ∧ db j = DB j) → (∀ j, i ≤ j → j < 64 → st j = 0 ∧ db j = -1) → (∀ j, 64 ≤ j → st j = ST j ∧ db j = DB j) → post 1 (nI NL, nI IL, nI n, nI m, nI q, 1, nI t, K, A, B, O, U, st, db, TV, TT, G, F)) → wX_seal_25 post (nI NL) (nI IL) (nI n) (nI m) (nI q) se (nI t) (d + 1) (nI i) K A B O U ST DB TV TT G F := by
  intro d
  induction d with
  | zero =>
    intro i ST DB hi h
    exact br_t (nI_le (a := 64) (by omega) (by omega)) (h ST DB (fun _ _ => ⟨rfl, rfl⟩) (fun j h1 h2 => absurd h1 (by omega)) (fun _ _ => ⟨rfl, rfl⟩))
  | succ d ih =>
    intro i ST DB hi h
    have hin : vp_in (nI i) 64 := vp_in_nI (by omega) (by decide)
    have hcl : (nI i).toNatClampNeg = i := nI_clamp (by omega)
    refine br_f (nI_ge (b := 64) (by omega) (by decide)) ⟨hin, nm_r (e' := upd ST i 0) (by rw [hcl]) ⟨hin, nm_r (e' := upd DB i (-1)) (by rw [hcl]) (nm_r (nI_1 i) ?_)⟩⟩
    refine ih (i + 1) _ _ (by omega) (fun st db h1 h2 h3 => h st db (fun j hj => ?_) (fun j hj hj2 => ?_) (fun j hj => ?_))
    · have := h1 j (by omega)
      rw [pk_un (by omega), pk_un (by omega)] at this
      exact this
    · by_cases e : j = i
      · subst e
        have := h1 j (by omega)
        rw [pk_us, pk_us] at this
        exact this
      · exact h2 j (by omega) hj2
    · have := h3 j (by omega)
      rw [pk_un (by omega), pk_un (by omega)] at this
      exact this
theorem yg_seal_l {post : Int32 → SY → Prop} {st db : Nat → Int32} (h2 : ∀ j, j < 64 → st j = 0 ∧ db j = -1) (h : post 1 (nI NL, nI IL, nI n, nI m, 1, nI 0, K, A, B, O, U, st, db, TV, TT, V, W)) : ∀ (d i : Nat) (ST DB : Nat → Int32), i + d = 64 → (∀ j, j < i → st j = ST j ∧ db j = DB j) → (∀ j, 64 ≤ j → st j = ST j ∧ db j = DB j) → wY_seal_53 post (nI NL) (nI IL) (nI n) (nI m) se (nI t) (d + 1) (nI i) K A B O U ST DB TV TT V W := by
  intro d
  induction d with
  | zero =>
    intro i ST DB hi h1 h3
    have e1 : ST = st := by
      funext j
      by_cases c : j < 64
      · exact (h1 j (by omega)).1.symm
      · exact (h3 j (by omega)).1.symm
    have e2 : DB = db := by
      funext j
      by_cases c : j < 64
      · exact (h1 j (by omega)).2.symm
      · exact (h3 j (by omega)).2.symm
    rw [e1, e2]
    exact br_t (nI_le (a := 64) (by omega) (by omega)) h
  | succ d ih =>
    intro i ST DB hi h1 h3
    have hin : vp_in (nI i) 64 := vp_in_nI (by omega) (by decide)
    have hcl : (nI i).toNatClampNeg = i := nI_clamp (by omega)
    refine br_f (nI_ge (b := 64) (by omega) (by decide)) ⟨hin, nm_r (e' := upd ST i 0) (by rw [hcl]) ⟨hin, nm_r (e' := upd DB i (-1)) (by rw [hcl]) (nm_r (nI_1 i) ?_)⟩⟩
    refine ih (i + 1) _ _ (by omega) (fun j hj => ?_) (fun j hj => ?_)
    · by_cases e : j = i
      · subst e
        rw [pk_us, pk_us]
        exact h2 j (by omega)
      · rw [pk_un e, pk_un e]
        exact h1 j (by omega)
    · rw [pk_un (by omega), pk_un (by omega)]
      exact h3 j hj
/-- the reference's look for an output -/
theorem yg_20 {post : Int32 → SY → Prop} (hn : n ≤ 32) (h1 : (∃ j, j < n ∧ ¬ U j = 0) → wY_seal_53 post (nI NL) (nI IL) (nI n) (nI m) se (nI t) 65 (nI 0) K A B O U ST DB TV TT V W) (h0 : (∀ j, j < n → U j = 0) → post 0 (nI NL, nI IL, nI n, nI m, se, nI t, K, A, B, O, U, ST, DB, TV, TT, V, W)) : ∀ (d i : Nat), i + d = n → ((∃ j, j < i ∧ ¬ U j = 0) → wY_seal_20 post (nI NL) (nI IL) (nI n) (nI m) se (nI t) K A B O U ST DB TV TT V W (d + 1) 1 (nI i)) ∧ ((∀ j, j < i → U j = 0) → wY_seal_20 post (nI NL) (nI IL) (nI n) (nI m) se (nI t) K A B O U ST DB TV TT V W (d + 1) 0 (nI i)) := by
  intro d
  induction d with
  | zero =>
    intro i hi
    have e : i = n := by omega
    subst e
    exact ⟨fun z => br_t (Int32.le_refl _) (br_f (by decide) ⟨65, h1 z⟩), fun z => br_t (Int32.le_refl _) (br_t rfl (h0 z))⟩
  | succ d ih =>
    intro i hi
    have hin : vp_in (nI i) 32 := vp_in_nI (by omega) (by decide)
    have hcl : (nI i).toNatClampNeg = i := nI_clamp (by omega)
    obtain ⟨iA, iB⟩ := ih (i + 1) (by omega)
    by_cases u : U i = 0
    · constructor
      · intro ⟨j, hj, hu⟩
        exact br_f (nI_ge (by omega) (by omega)) ⟨hin, br_t (by rw [hcl]; exact u) (nm_r (nI_1 i) (iA ⟨j, by omega, hu⟩))⟩
      · intro z
        exact br_f (nI_ge (by omega) (by omega)) ⟨hin, br_t (by rw [hcl]; exact u) (nm_r (nI_1 i) (iB (lt_s z u)))⟩
    · constructor
      · intro _
        exact br_f (nI_ge (by omega) (by omega)) ⟨hin, br_f (by rw [hcl]; exact u) (nm_r (nI_1 i) (iA ⟨i, by omega, u⟩))⟩
      · intro _
        exact br_f (nI_ge (by omega) (by omega)) ⟨hin, br_f (by rw [hcl]; exact u) (nm_r (nI_1 i) (iA ⟨i, by omega, u⟩))⟩
end PGH
end
section
section PGI
variable {NL IL n m q t : Nat} {se : Int32} {K A B O U ST DB TV TT G F V W : Nat → Int32}
/-! the relation -/
def pg_Inv (NL IL n m q t : Nat) (se : Int32) (K A B U ST DB : Nat → Int32) : Prop :=
  (8 ≤ NL ∧ NL ≤ 32 ∧ IL ≤ 10 ∧ n ≤ NL ∧ m ≤ IL) ∧ pg_Wf K A B n ∧ (∀ j, pg_bit (U j)) ∧ (∀ j, n ≤ j → U j = 0) ∧ q = pg_cnt (fun j => decide (¬ U j = 0)) n ∧ ((se = 0 ∧ t = 0) ∨ (se = 1 ∧ t ≤ pg_done ST (2 * n) ∧ pg_Fit ST DB (2 * n)))
/-- both sides hold the same netlist, marks and tests; their scratch is free -/
def i_Rel (_ : Nat) (u : SX) (v : SY) : Prop := ∃ (NL IL n m q t : Nat) (se : Int32) (K A B O U ST DB TV TT G F V W : Nat → Int32), u = (nI NL, nI IL, nI n, nI m, nI q, se, nI t, K, A, B, O, U, ST, DB, TV, TT, G, F) ∧ v = (nI NL, nI IL, nI n, nI m, se, nI t, K, A, B, O, U, ST, DB, TV, TT, V, W) ∧ pg_Inv NL IL n m q t se K A B U ST DB
theorem pg_mk {k : Nat} (h : pg_Inv NL IL n m q t se K A B U ST DB) : i_Rel k (nI NL, nI IL, nI n, nI m, nI q, se, nI t, K, A, B, O, U, ST, DB, TV, TT, G, F) (nI NL, nI IL, nI n, nI m, se, nI t, K, A, B, O, U, ST, DB, TV, TT, V, W) :=
  ⟨NL, IL, n, m, q, t, se, K, A, B, O, U, ST, DB, TV, TT, G, F, V, W, rfl, rfl, h⟩
theorem pg_n32 (h : pg_Inv NL IL n m q t se K A B U ST DB) : n ≤ 32 := Nat.le_trans h.1.2.2.2.1 h.1.2.1
theorem pg_m10 (h : pg_Inv NL IL n m q t se K A B U ST DB) : m ≤ 10 := Nat.le_trans h.1.2.2.2.2 h.1.2.2.1
theorem pg_wf (h : pg_Inv NL IL n m q t se K A B U ST DB) : pg_Wf K A B n := h.2.1
theorem pg_ubit (h : pg_Inv NL IL n m q t se K A B U ST DB) (j : Nat) : pg_bit (U j) := h.2.2.1 j
theorem pg_se (h : pg_Inv NL IL n m q t se K A B U ST DB) : (se = 0 ∧ t = 0) ∨ (se = 1 ∧ t ≤ pg_done ST (2 * n) ∧ pg_Fit ST DB (2 * n)) := h.2.2.2.2.2
theorem pg_t64 (h : pg_Inv NL IL n m q t se K A B U ST DB) : t ≤ 64 := by
  have h1 := pg_n32 h
  rcases pg_se h with ⟨_, h2⟩ | ⟨_, h2, _⟩
  · omega
  · have h3 : pg_done ST (2 * n) ≤ 2 * n := pg_cnt_le _ _
    omega
theorem pg_M (h : pg_Inv NL IL n m q t se K A B U ST DB) : ∃ M : Nat, (1 : Int32) <<< (nI m &&& 31) = nI M ∧ M ≤ 1024 := ⟨2 ^ m, pg_sh (pg_m10 h), pg_p10 (pg_m10 h)⟩
theorem i_up {k : Nat} {u : SX} {v : SY} (h : i_Rel k u v) : i_Rel (k + 4) u v := h
theorem pg_clamp (lo hi : Nat) (hlh : lo ≤ hi) (hh : hi < 2 ^ 31) (p : Int32) : ∃ a : Nat, lo ≤ a ∧ a ≤ hi ∧ (∀ post : Int32 → Prop, post (nI a) → wpX_clamp post p (nI lo) (nI hi)) ∧ (∀ P : Int32 → Prop, P (nI a) → (nI lo ≤ p → ((p ≤ nI hi → P p) ∧ (¬ p ≤ nI hi → P (nI hi)))) ∧ (¬ nI lo ≤ p → ((nI lo ≤ nI hi → P (nI lo)) ∧ (¬ nI lo ≤ nI hi → P (nI hi))))) := by
  by_cases h1 : nI lo ≤ p
  · by_cases h2 : p ≤ nI hi
    · obtain ⟨j, hj, rfl⟩ := nI_of (x := p) (Int32.not_lt.mpr (Int32.le_trans (nI_pos' (n := lo) (by omega)) h1))
      have l1 := (nI_leI (by omega) hj).mp h1
      have l2 := (nI_leI hj hh).mp h2
      exact ⟨j, l1, l2, fun post h => br_t h1 (br_t h2 h), fun P h => br_t h1 (br_t h2 h)⟩
    · exact ⟨hi, hlh, Nat.le_refl _, fun post h => br_t h1 (br_f h2 h), fun P h => br_t h1 (br_f h2 h)⟩
  · exact ⟨lo, Nat.le_refl _, hlh, fun post h => br_f h1 h, fun P h => br_f h1 (br_t (nI_le hlh hh) h)⟩
theorem i_vc0 (k0 : Int32) (k1 : Int32) : wpX_init (fun u => wpY_init (fun v => i_Rel 2 u v) k0 k1) k0 k1 := by
  obtain ⟨a, a1, a2, aX, aY⟩ := pg_clamp 8 32 (by decide) (by decide) k0
  obtain ⟨b, b1, b2, bX, bY⟩ := pg_clamp 1 10 (by decide) (by decide) k1
  unfold wpX_init
  refine aX _ (bX _ ?_)
  refine aY (fun x3 => wY_init_112 (fun v => i_Rel 2 (nI a, nI b, 0, 0, 0, 0, 0, (fun _ => 0), (fun _ => 0), (fun _ => 0), (fun _ => 0), (fun _ => 0), (fun _ => 0), (fun _ => 0), (fun _ => 0), (fun _ => 0), (fun _ => 0), (fun _ => 0)) v) k1 x3 0 0 0 0 0 0 (fun _ => 0) (fun _ => 0) (fun _ => 0) (fun _ => 0) (fun _ => 0) (fun _ => 0) (fun _ => 0) (fun _ => 0) (fun _ => 0) (fun _ => 0) (fun _ => 0)) ?_
  refine bY (fun x4 => i_Rel 2 (nI a, nI b, 0, 0, 0, 0, 0, (fun _ => 0), (fun _ => 0), (fun _ => 0), (fun _ => 0), (fun _ => 0), (fun _ => 0), (fun _ => 0), (fun _ => 0), (fun _ => 0), (fun _ => 0), (fun _ => 0)) (nI a, x4, 0, 0, 0, 0, (fun _ => 0), (fun _ => 0), (fun _ => 0), (fun _ => 0), (fun _ => 0), (fun _ => 0), (fun _ => 0), (fun _ => 0), (fun _ => 0), (fun _ => 0), (fun _ => 0))) ?_
  exact pg_mk (n := 0) (m := 0) (q := 0) (t := 0) (se := 0) ⟨⟨a1, a2, b2, by omega, by omega⟩, fun i hi => absurd hi (by omega), fun _ => pg_b0, fun _ _ => rfl, rfl, Or.inl ⟨rfl, rfl⟩⟩
/-! the getters -/
theorem i_vc_nodeCount {k : Nat} {u : SX} {v : SY} (I : i_Rel k u v) (hk : k + 4 ≤ 2050) : wpX_nodeCount (fun r => wpY_nodeCount (fun r' => r' = r ∧ i_Rel (k + 4) u v) v) u := by
  obtain ⟨NL, IL, n, m, q, t, se, K, A, B, O, U, ST, DB, TV, TT, G, F, V, W, rfl, rfl, hI⟩ := I
  exact And.intro rfl (pg_mk hI)
theorem i_vc_testCount {k : Nat} {u : SX} {v : SY} (I : i_Rel k u v) (hk : k + 4 ≤ 2050) : wpX_testCount (fun r => wpY_testCount (fun r' => r' = r ∧ i_Rel (k + 4) u v) v) u := by
  obtain ⟨NL, IL, n, m, q, t, se, K, A, B, O, U, ST, DB, TV, TT, G, F, V, W, rfl, rfl, hI⟩ := I
  exact And.intro rfl (pg_mk hI)
theorem i_vc_nodeKind {k : Nat} {u : SX} {v : SY} (I : i_Rel k u v) (hk : k + 4 ≤ 2050) (v1 : Int32) : wpX_nodeKind (fun r => wpY_nodeKind (fun r' => r' = r ∧ i_Rel (k + 4) u v) v v1) u v1 := by
  obtain ⟨NL, IL, n, m, q, t, se, K, A, B, O, U, ST, DB, TV, TT, G, F, V, W, rfl, rfl, hI⟩ := I
  have hn := pg_n32 hI
  unfold wpX_nodeKind
  dsimp only
  rcases pk_ix v1 (n := n) (by omega) with h | h | ⟨j, hj, rfl⟩
  · exact xg_nodeF (Or.inl h) (br_t rfl (pg_sf (Or.inl h) ⟨rfl, pg_mk hI⟩))
  · exact xg_nodeF (Or.inr h) (br_t rfl (pg_sf (Or.inr h) ⟨rfl, pg_mk hI⟩))
  · have hin : vp_in (nI j) 32 := vp_in_nI (by omega) (by decide)
    exact xg_nodeT hn hj (br_f (by decide) ⟨hin, pg_sr rfl hj (by omega) ⟨hin, rfl, pg_mk hI⟩⟩)
theorem i_vc_isOutput {k : Nat} {u : SX} {v : SY} (I : i_Rel k u v) (hk : k + 4 ≤ 2050) (v1 : Int32) : wpX_isOutput (fun r => wpY_isOutput (fun r' => r' = r ∧ i_Rel (k + 4) u v) v v1) u v1 := by
  obtain ⟨NL, IL, n, m, q, t, se, K, A, B, O, U, ST, DB, TV, TT, G, F, V, W, rfl, rfl, hI⟩ := I
  have hn := pg_n32 hI
  unfold wpX_isOutput
  dsimp only
  rcases pk_ix v1 (n := n) (by omega) with h | h | ⟨j, hj, rfl⟩
  · exact xg_nodeF (Or.inl h) (br_t rfl (pg_sf (Or.inl h) ⟨rfl, pg_mk hI⟩))
  · exact xg_nodeF (Or.inr h) (br_t rfl (pg_sf (Or.inr h) ⟨rfl, pg_mk hI⟩))
  · have hin : vp_in (nI j) 32 := vp_in_nI (by omega) (by decide)
    have hb := pg_ubit hI (nI j).toNatClampNeg
    have hbn := pg_nb hb
    refine xg_nodeT hn hj (br_f (by decide) ⟨hin, br_c (fun h0 => ?_) (fun h1 => ?_)⟩)
    · exact pg_sr rfl hj (by omega) ⟨hin, hbn, h0, pg_mk hI⟩
    · exact pg_sr rfl hj (by omega) ⟨hin, hbn, hb.resolve_left h1, pg_mk hI⟩
theorem i_vc_faultStatus {k : Nat} {u : SX} {v : SY} (I : i_Rel k u v) (hk : k + 4 ≤ 2050) (v1 : Int32) : wpX_faultStatus (fun r => wpY_faultStatus (fun r' => r' = r ∧ i_Rel (k + 4) u v) v v1) u v1 := by
  obtain ⟨NL, IL, n, m, q, t, se, K, A, B, O, U, ST, DB, TV, TT, G, F, V, W, rfl, rfl, hI⟩ := I
  have hn := pg_n32 hI
  rcases pg_se hI with ⟨rfl, rfl⟩ | ⟨rfl, ht, hfit⟩
  · exact br_t rfl (br_t rfl ⟨rfl, pg_mk hI⟩)
  · refine br_f (by decide) ?_
    rcases pk_ix v1 (n := 2 * n) (by omega) with h | h | ⟨j, hj, rfl⟩
    · exact xg_faultF (Or.inl h) (br_t rfl (br_f (by decide) (pg_sf (Or.inl h) ⟨rfl, pg_mk hI⟩)))
    · exact xg_faultF (Or.inr h) (br_t rfl (br_f (by decide) (pg_sf (Or.inr (by rw [pg_2n]; exact h)) ⟨rfl, pg_mk hI⟩)))
    · have hin : vp_in (nI j) 64 := vp_in_nI (by omega) (by decide)
      exact xg_faultT hn hj (br_f (by decide) ⟨hin, br_f (by decide) (pg_sr (pg_2n n) hj (by omega) ⟨hin, rfl, pg_mk hI⟩)⟩)
theorem i_vc_detectedBy {k : Nat} {u : SX} {v : SY} (I : i_Rel k u v) (hk : k + 4 ≤ 2050) (v1 : Int32) : wpX_detectedBy (fun r => wpY_detectedBy (fun r' => r' = r ∧ i_Rel (k + 4) u v) v v1) u v1 := by
  obtain ⟨NL, IL, n, m, q, t, se, K, A, B, O, U, ST, DB, TV, TT, G, F, V, W, rfl, rfl, hI⟩ := I
  have hn := pg_n32 hI
  rcases pg_se hI with ⟨rfl, rfl⟩ | ⟨rfl, ht, hfit⟩
  · exact br_t rfl (br_t rfl ⟨rfl, pg_mk hI⟩)
  · refine br_f (by decide) ?_
    rcases pk_ix v1 (n := 2 * n) (by omega) with h | h | ⟨j, hj, rfl⟩
    · exact xg_faultF (Or.inl h) (br_t rfl (br_f (by decide) (pg_sf (Or.inl h) ⟨rfl, pg_mk hI⟩)))
    · exact xg_faultF (Or.inr h) (br_t rfl (br_f (by decide) (pg_sf (Or.inr (by rw [pg_2n]; exact h)) ⟨rfl, pg_mk hI⟩)))
    · have hin : vp_in (nI j) 64 := vp_in_nI (by omega) (by decide)
      have hcl : (nI j).toNatClampNeg = j := nI_clamp (by omega)
      refine xg_faultT hn hj (br_f (by decide) ⟨hin, br_f (by decide) (pg_sr (pg_2n n) hj (by omega) ⟨hin, br_c (fun _ => ⟨hin, rfl, pg_mk hI⟩) (fun h1 => ⟨?_, pg_mk hI⟩)⟩)⟩)
      rw [hcl] at h1 ⊢
      exact (hfit j hj h1).symm
theorem i_vc_testVector {k : Nat} {u : SX} {v : SY} (I : i_Rel k u v) (hk : k + 4 ≤ 2050) (v1 : Int32) : wpX_testVector (fun r => wpY_testVector (fun r' => r' = r ∧ i_Rel (k + 4) u v) v v1) u v1 := by
  obtain ⟨NL, IL, n, m, q, t, se, K, A, B, O, U, ST, DB, TV, TT, G, F, V, W, rfl, rfl, hI⟩ := I
  have ht := pg_t64 hI
  unfold wpX_testVector
  dsimp only
  rcases pk_ix v1 (n := t) (by omega) with h | h | ⟨j, hj, rfl⟩
  · exact xg_testF (Or.inl h) (br_t rfl (pg_sf (Or.inl h) ⟨rfl, pg_mk hI⟩))
  · exact xg_testF (Or.inr h) (br_t rfl (pg_sf (Or.inr h) ⟨rfl, pg_mk hI⟩))
  · have hin : vp_in (nI j) 64 := vp_in_nI (by omega) (by decide)
    exact xg_testT ht hj (br_f (by decide) ⟨hin, pg_sr rfl hj (by omega) ⟨hin, rfl, pg_mk hI⟩⟩)
theorem i_vc_testTarget {k : Nat} {u : SX} {v : SY} (I : i_Rel k u v) (hk : k + 4 ≤ 2050) (v1 : Int32) : wpX_testTarget (fun r => wpY_testTarget (fun r' => r' = r ∧ i_Rel (k + 4) u v) v v1) u v1 := by
  obtain ⟨NL, IL, n, m, q, t, se, K, A, B, O, U, ST, DB, TV, TT, G, F, V, W, rfl, rfl, hI⟩ := I
  have ht := pg_t64 hI
  unfold wpX_testTarget
  dsimp only
  rcases pk_ix v1 (n := t) (by omega) with h | h | ⟨j, hj, rfl⟩
  · exact xg_testF (Or.inl h) (br_t rfl (pg_sf (Or.inl h) ⟨rfl, pg_mk hI⟩))
  · exact xg_testF (Or.inr h) (br_t rfl (pg_sf (Or.inr h) ⟨rfl, pg_mk hI⟩))
  · have hin : vp_in (nI j) 64 := vp_in_nI (by omega) (by decide)
    exact xg_testT ht hj (br_f (by decide) ⟨hin, pg_sr rfl hj (by omega) ⟨hin, rfl, pg_mk hI⟩⟩)
end PGI
end
section
section PGJ
/-! evaluate, detects, simulate -/
theorem i_vc_evaluate {k : Nat} {u : SX} {v : SY} (I : i_Rel k u v) (hk : k + 4 ≤ 2050) (v1 : Int32) (v2 : Int32) : wpX_evaluate (fun r u' => wpY_evaluate (fun r' v' => r' = r ∧ i_Rel (k + 4) u' v') v v1 v2) u v1 v2 := by
  obtain ⟨NL, IL, n, m, q, t, se, K, A, B, O, U, ST, DB, TV, TT, G, F, V, W, rfl, rfl, hI⟩ := I
  have hn := pg_n32 hI
  have hw := pg_wf hI
  obtain ⟨M, hM, hM2⟩ := pg_M hI
  unfold wpX_evaluate wpY_evaluate
  dsimp only
  rcases pk_ix v1 (n := M) (by omega) with h | h | ⟨a, ha, rfl⟩
  · exact xg_vecF hM (Or.inl h) (br_t rfl (yg_vecF hM (Or.inl h) (br_t rfl ⟨rfl, pg_mk hI⟩)))
  · exact xg_vecF hM (Or.inr h) (br_t rfl (yg_vecF hM (Or.inr h) (br_t rfl ⟨rfl, pg_mk hI⟩)))
  · refine xg_vecT hM hM2 ha (br_f (by decide) ?_)
    rcases pk_ix v2 (n := n) (by omega) with h | h | ⟨b, hb, rfl⟩
    · exact xg_nodeF (Or.inl h) (br_t rfl (yg_vecT hM hM2 ha (br_f (by decide) (pg_sf (Or.inl h) ⟨rfl, pg_mk hI⟩))))
    · exact xg_nodeF (Or.inr h) (br_t rfl (yg_vecT hM hM2 ha (br_f (by decide) (pg_sf (Or.inr h) ⟨rfl, pg_mk hI⟩))))
    · have hin : vp_in (nI b) 32 := vp_in_nI (by omega) (by decide)
      have hcl : (nI b).toNatClampNeg = b := nI_clamp (by omega)
      have g0 := pg_run_ev (K := K) (A := A) (B := B) O (nI a) (-1) hw hn pg_b0
      refine xg_nodeT hn hb (br_f (by decide) (xg_fillG hw hn g0 (fun G' hG => ?_)))
      refine And.intro hin (yg_vecT hM hM2 ha (br_f (by decide) (pg_sr rfl hb (by omega) (yg_run hw hn g0 (Or.inl ⟨rfl, rfl⟩) (fun V' hV => ?_)))))
      refine And.intro hin (And.intro ?_ (pg_mk hI))
      rw [hcl]
      show V' b = G' b
      rw [hV b hb, hG b hb]
theorem i_vc_detects {k : Nat} {u : SX} {v : SY} (I : i_Rel k u v) (hk : k + 4 ≤ 2050) (v1 : Int32) (v2 : Int32) : wpX_detects (fun r u' => wpY_detects (fun r' v' => r' = r ∧ i_Rel (k + 4) u' v') v v1 v2) u v1 v2 := by
  obtain ⟨NL, IL, n, m, q, t, se, K, A, B, O, U, ST, DB, TV, TT, G, F, V, W, rfl, rfl, hI⟩ := I
  have hn := pg_n32 hI
  have hw := pg_wf hI
  obtain ⟨M, hM, hM2⟩ := pg_M hI
  unfold wpX_detects
  dsimp only
  rcases pk_ix v1 (n := M) (by omega) with h | h | ⟨a, ha, rfl⟩
  · refine xg_vecF hM (Or.inl h) (br_t rfl ?_)
    unfold wpY_detects
    exact yg_vecF hM (Or.inl h) (br_t rfl ⟨rfl, pg_mk hI⟩)
  · refine xg_vecF hM (Or.inr h) (br_t rfl ?_)
    unfold wpY_detects
    exact yg_vecF hM (Or.inr h) (br_t rfl ⟨rfl, pg_mk hI⟩)
  · refine xg_vecT hM hM2 ha (br_f (by decide) ?_)
    rcases pk_ix v2 (n := 2 * n) (by omega) with h | h | ⟨b, hb, rfl⟩
    · refine xg_faultF (Or.inl h) (br_t rfl ?_)
      unfold wpY_detects
      exact yg_vecT hM hM2 ha (br_f (by decide) (pg_sf (Or.inl h) ⟨rfl, pg_mk hI⟩))
    · refine xg_faultF (Or.inr h) (br_t rfl ?_)
      unfold wpY_detects
      exact yg_vecT hM hM2 ha (br_f (by decide) (pg_sf (Or.inr (by rw [pg_2n]; exact h)) ⟨rfl, pg_mk hI⟩))
    · refine xg_faultT hn hb (br_f (by decide) (xg_unc hw hn hb (fun hd G' F' => ?_) (fun hd G' F' => ?_)))
      · refine br_f (by decide) (yg_det hw hn hM hM2 ha hb (fun _ V' W' => ⟨rfl, pg_mk hI⟩) (fun hd' V' W' => ?_))
        rw [hd] at hd'
        exact absurd hd' (by decide)
      · refine br_t rfl (yg_det hw hn hM hM2 ha hb (fun hd' V' W' => ?_) (fun _ V' W' => ⟨rfl, pg_mk hI⟩))
        rw [hd] at hd'
        exact absurd hd' (by decide)
theorem i_vc_simulate {k : Nat} {u : SX} {v : SY} (I : i_Rel k u v) (hk : k + 4 ≤ 2050) (v1 : Int32) : wpX_simulate (fun r u' => wpY_simulate (fun r' v' => r' = r ∧ i_Rel (k + 4) u' v') v v1) u v1 := by
  obtain ⟨NL, IL, n, m, q, t, se, K, A, B, O, U, ST, DB, TV, TT, G, F, V, W, rfl, rfl, hI⟩ := I
  have hn := pg_n32 hI
  have hw := pg_wf hI
  obtain ⟨M, hM, hM2⟩ := pg_M hI
  unfold wpX_simulate wpY_simulate
  dsimp only
  rcases pk_ix v1 (n := M) (by omega) with h | h | ⟨a, ha, rfl⟩
  · exact xg_vecF hM (Or.inl h) (br_t rfl (yg_vecF hM (Or.inl h) (br_t rfl ⟨rfl, pg_mk hI⟩)))
  · exact xg_vecF hM (Or.inr h) (br_t rfl (yg_vecF hM (Or.inr h) (br_t rfl ⟨rfl, pg_mk hI⟩)))
  · refine xg_vecT hM hM2 ha (br_f (by decide) ⟨2 * n + 1, xg_sim_l hw hn (fun G' F' => ?_) (2 * n) 0 G F (by omega)⟩)
    exact yg_vecT hM hM2 ha (br_f (by decide) ⟨2 * n + 1, yg_sim_l hw hn hM hM2 ha (fun V' W' => ⟨rfl, pg_mk hI⟩) (2 * n) 0 V W (by omega)⟩)
end PGJ
end
section
section PGK
variable {NL IL n m q t : Nat} {se : Int32} {K A B O U ST DB TV TT G F V W : Nat → Int32}
/-! addInput, addGate, markOutput, seal -/
theorem pg_wf_in {y z : Int32} (h : pg_Wf K A B n) : pg_Wf (upd K n 8) (upd A n y) (upd B n z) (n + 1) := by
  intro i hi
  by_cases e : i = n
  · subst e
    exact ⟨⟨8, by omega, by rw [pk_us]; rfl⟩, Or.inl pk_us⟩
  · rw [pk_un e, pk_un e, pk_un e]
    exact h i (by omega)
theorem pg_wf_g {k a b : Nat} (h : pg_Wf K A B n) (hk : k ≤ 7) (ha : a < n) (hb : b < n) : pg_Wf (upd K n (nI k)) (upd A n (nI a)) (upd B n (nI b)) (n + 1) := by
  intro i hi
  by_cases e : i = n
  · subst e
    exact ⟨⟨k, by omega, pk_us⟩, Or.inr ⟨⟨a, ha, pk_us⟩, ⟨b, hb, pk_us⟩⟩⟩
  · rw [pk_un e, pk_un e, pk_un e]
    exact h i (by omega)
theorem pg_inv_n {K' A' B' : Nat → Int32} (h : pg_Inv NL IL n m q 0 0 K A B U ST DB) (hw : pg_Wf K' A' B' (n + 1)) (hn : n < NL) : pg_Inv NL IL (n + 1) m q 0 0 K' A' B' U ST DB := by
  obtain ⟨⟨h1, h2, h3, h4, h5⟩, _, hb, hz, hq, _⟩ := h
  refine ⟨⟨h1, h2, h3, by omega, h5⟩, hw, hb, fun j hj => hz j (by omega), ?_, Or.inl ⟨rfl, rfl⟩⟩
  rw [pg_cnt_f (decide_eq_false (fun z => z (hz n (Nat.le_refl _))))]
  exact hq
theorem pg_inv_m (h : pg_Inv NL IL n m q 0 0 K A B U ST DB) (hm : m < IL) : pg_Inv NL IL n (m + 1) q 0 0 K A B U ST DB := by
  obtain ⟨⟨h1, h2, h3, h4, h5⟩, hr⟩ := h
  exact ⟨⟨h1, h2, h3, h4, by omega⟩, hr⟩
theorem pg_inv_u {j : Nat} (h : pg_Inv NL IL n m q 0 0 K A B U ST DB) (hj : j < n) (h0 : U j = 0) : pg_Inv NL IL n m (q + 1) 0 0 K A B (upd U j 1) ST DB := by
  obtain ⟨hl, hw, hb, hz, hq, _⟩ := h
  refine ⟨hl, hw, fun i => ?_, fun i hi => ?_, ?_, Or.inl ⟨rfl, rfl⟩⟩
  · by_cases e : i = j
    · rw [e, pk_us]; exact pg_b1
    · rw [pk_un e]; exact hb i
  · rw [pk_un (by omega)]
    exact hz i hi
  · rw [hq]
    refine (pg_cnt_p (i := j) (decide_eq_false (fun z => z h0)) (decide_eq_true ?_) (fun i hi => ?_) n hj).symm
    · rw [pk_us]; decide
    · show decide (¬ U i = 0) = decide (¬ upd U j 1 i = 0)
      rw [pk_un hi]
theorem pg_inv_s {st db : Nat → Int32} (h : pg_Inv NL IL n m q 0 0 K A B U ST DB) (h2 : ∀ j, j < 64 → st j = 0 ∧ db j = -1) : pg_Inv NL IL n m q 0 1 K A B U st db := by
  have hn := pg_n32 h
  obtain ⟨hl, hw, hb, hz, hq, _⟩ := h
  exact ⟨hl, hw, hb, hz, hq, Or.inr ⟨rfl, Nat.zero_le _, fun f hf _ => (h2 f (by omega)).2⟩⟩
theorem i_vc_addInput {k : Nat} {u : SX} {v : SY} (I : i_Rel k u v) (hk : k + 4 ≤ 2050) : wpX_addInput (fun r u' => wpY_addInput (fun r' v' => r' = r ∧ i_Rel (k + 4) u' v') v) u := by
  obtain ⟨NL, IL, n, m, q, t, se, K, A, B, O, U, ST, DB, TV, TT, G, F, V, W, rfl, rfl, hI⟩ := I
  rcases pg_se hI with ⟨rfl, rfl⟩ | ⟨rfl, _, _⟩
  · have hl := hI.1
    refine br_t rfl ?_
    by_cases hn : n = NL
    · exact br_t (nI_le (by omega) (by omega)) (br_t rfl (br_t (by rw [hn]) ⟨rfl, pg_mk hI⟩))
    · have hne : ¬ nI n = nI NL := fun z => hn ((nI_eq (by omega) (by omega)).mp z)
      refine br_f (nI_ge (by omega) (by omega)) ?_
      by_cases hm : m = IL
      · exact br_f (nI_nlt (by omega) (by omega)) (br_t rfl (br_f hne (br_t (by rw [hm]) ⟨rfl, pg_mk hI⟩)))
      · have hme : ¬ nI m = nI IL := fun z => hm ((nI_eq (by omega) (by omega)).mp z)
        have hin : vp_in (nI n) 32 := vp_in_nI (by omega) (by decide)
        have hcl : (nI n).toNatClampNeg = n := nI_clamp (by omega)
        have hI' := pg_inv_m (pg_inv_n hI (pg_wf_in (y := 0) (z := 0) (pg_wf hI)) (by omega)) (by omega)
        refine br_t (nI_lt (by omega) (by omega)) (xg_app (by omega) ?_)
        refine And.intro hin (nm_r (e' := upd O n (nI m)) (by rw [hcl]) (nm_r (nI_1 m) ?_))
        exact br_t rfl (br_f hne (br_f hme ⟨hin, nm_r (e' := upd K n 8) (by rw [hcl]) ⟨hin, nm_r (e' := upd O n (nI m)) (by rw [hcl]) ⟨hin, nm_r (e' := upd A n 0) (by rw [hcl]) ⟨hin, nm_r (e' := upd B n 0) (by rw [hcl]) (nm_r (nI_1 n) (nm_r (nI_1 m) ⟨rfl, pg_mk hI'⟩))⟩⟩⟩⟩))
  · exact br_f (by decide) (br_f (by decide) ⟨rfl, pg_mk hI⟩)
theorem yg_103 {post : Int32 → SY → Prop} {x : Int32} (hn : n < 32) (h : post (nI n) (nI NL, nI IL, nI (n + 1), nI m, se, nI t, K, A, (upd B n x), O, U, ST, DB, TV, TT, V, W)) : wY_addGate_103 post (nI n) x (nI n) (nI NL) (nI IL) (nI n) (nI m) se (nI t) K A B O U ST DB TV TT V W := by
  have hcl : (nI n).toNatClampNeg = n := nI_clamp (by omega)
  exact And.intro (vp_in_nI hn (by decide)) (nm_r (e' := upd B n x) (by rw [hcl]) (nm_r (nI_1 n) h))
theorem yg_65 {post : Int32 → SY → Prop} {x y z : Int32} (hn : n < 32) (h : post (nI n) (nI NL, nI IL, nI (n + 1), nI m, se, nI t, (upd K n x), (upd A n y), (upd B n (if x < 2 then y else z)), O, U, ST, DB, TV, TT, V, W)) : wY_addGate_65 post x y z (nI NL) (nI IL) (nI n) (nI m) se (nI t) K A B O U ST DB TV TT V W := by
  have hin : vp_in (nI n) 32 := vp_in_nI hn (by decide)
  have hcl : (nI n).toNatClampNeg = n := nI_clamp (by omega)
  refine And.intro hin (nm_r (e' := upd K n x) (by rw [hcl]) ⟨hin, nm_r (e' := upd A n y) (by rw [hcl]) ?_⟩)
  by_cases c : x < 2
  · rw [if_pos c] at h
    exact br_t c (yg_103 hn h)
  · rw [if_neg c] at h
    exact br_f c (yg_103 hn h)
theorem i_vc_addGate {k : Nat} {u : SX} {v : SY} (I : i_Rel k u v) (hk : k + 4 ≤ 2050) (v1 : Int32) (v2 : Int32) (v3 : Int32) : wpX_addGate (fun r u' => wpY_addGate (fun r' v' => r' = r ∧ i_Rel (k + 4) u' v') v v1 v2 v3) u v1 v2 v3 := by
  obtain ⟨NL, IL, n, m, q, t, se, K, A, B, O, U, ST, DB, TV, TT, G, F, V, W, rfl, rfl, hI⟩ := I
  rcases pg_se hI with ⟨rfl, rfl⟩ | ⟨rfl, _, _⟩
  · have hl := hI.1
    have hn32 := pg_n32 hI
    refine br_t rfl ?_
    by_cases hn : n = NL
    · exact br_f (nI_nlt (by omega) (by omega)) (br_t rfl (br_t (by rw [hn]) ⟨rfl, pg_mk hI⟩))
    · have hne : ¬ nI n = nI NL := fun z => hn ((nI_eq (by omega) (by omega)).mp z)
      refine br_t (nI_lt (by omega) (by omega)) ?_
      rcases pk_ix v1 (n := 8) (by decide) with h | h | ⟨c, hc, rfl⟩
      · exact br_t h (br_t rfl (br_f hne (br_t h ⟨rfl, pg_mk hI⟩)))
      · have h0 : ¬ v1 < 0 := Int32.not_lt.mpr (Int32.le_trans (by decide : (0 : Int32) ≤ nI 8) h)
        have h7 : (7 : Int32) < v1 := Int32.lt_of_lt_of_le (by decide : (7 : Int32) < nI 8) h
        exact br_f h0 (br_t h7 (br_t rfl (br_f hne (br_f h0 (br_f (Int32.not_le.mpr h7) ⟨rfl, pg_mk hI⟩)))))
      · have h0 : ¬ nI c < 0 := nI_pos (by omega)
        have h7 : ¬ (7 : Int32) < nI c := nI_nlt (a := 7) (by omega) (by decide)
        have h7' : nI c ≤ 7 := nI_le (b := 7) (by omega) (by decide)
        refine br_f h0 (br_f h7 ?_)
        rcases pk_ix v2 (n := n) (by omega) with h | h | ⟨a, ha, rfl⟩
        · exact xg_nodeF (Or.inl h) (br_t rfl (br_t rfl (br_f hne (br_f h0 (br_t h7' (pg_sf (Or.inl h) ⟨rfl, pg_mk hI⟩))))))
        · exact xg_nodeF (Or.inr h) (br_t rfl (br_t rfl (br_f hne (br_f h0 (br_t h7' (pg_sf (Or.inr h) ⟨rfl, pg_mk hI⟩))))))
        · refine xg_nodeT hn32 ha (br_f (by decide) ?_)
          by_cases c2 : c < 2
          · have l2 : nI c < 2 := nI_lt (b := 2) c2 (by decide)
            have hI' := pg_inv_n hI (pg_wf_g (k := c) (pg_wf hI) (by omega) ha ha) (by omega)
            refine br_f (nI_ge (b := 2) c2 (by decide)) (xg_app (by omega) ?_)
            refine br_t rfl (br_f hne (br_f h0 (br_t h7' (pg_sr rfl ha (by omega) (br_t l2 (yg_65 (by omega) ?_))))))
            rw [if_pos l2]
            exact ⟨rfl, pg_mk hI'⟩
          · have l2 : ¬ nI c < 2 := nI_nlt (b := 2) (by omega) (by omega)
            refine br_t (nI_le (a := 2) (by omega) (by omega)) ?_
            rcases pk_ix v3 (n := n) (by omega) with h | h | ⟨b, hb, rfl⟩
            · exact xg_nodeF (Or.inl h) (br_t rfl (br_t rfl (br_f hne (br_f h0 (br_t h7' (pg_sr rfl ha (by omega) (br_f l2 (pg_sf (Or.inl h) ⟨rfl, pg_mk hI⟩))))))))
            · exact xg_nodeF (Or.inr h) (br_t rfl (br_t rfl (br_f hne (br_f h0 (br_t h7' (pg_sr rfl ha (by omega) (br_f l2 (pg_sf (Or.inr h) ⟨rfl, pg_mk hI⟩))))))))
            · have hI' := pg_inv_n hI (pg_wf_g (k := c) (pg_wf hI) (by omega) ha hb) (by omega)
              refine xg_nodeT hn32 hb (br_f (by decide) (xg_app (by omega) ?_))
              refine br_t rfl (br_f hne (br_f h0 (br_t h7' (pg_sr rfl ha (by omega) (br_f l2 (pg_sr rfl hb (by omega) (yg_65 (by omega) ?_)))))))
              rw [if_neg l2]
              exact ⟨rfl, pg_mk hI'⟩
  · exact br_f (by decide) (br_f (by decide) ⟨rfl, pg_mk hI⟩)
theorem i_vc_markOutput {k : Nat} {u : SX} {v : SY} (I : i_Rel k u v) (hk : k + 4 ≤ 2050) (v1 : Int32) : wpX_markOutput (fun r u' => wpY_markOutput (fun r' v' => r' = r ∧ i_Rel (k + 4) u' v') v v1) u v1 := by
  obtain ⟨NL, IL, n, m, q, t, se, K, A, B, O, U, ST, DB, TV, TT, G, F, V, W, rfl, rfl, hI⟩ := I
  rcases pg_se hI with ⟨rfl, rfl⟩ | ⟨rfl, _, _⟩
  · have hn := pg_n32 hI
    refine br_t rfl ?_
    rcases pk_ix v1 (n := n) (by omega) with h | h | ⟨j, hj, rfl⟩
    · exact xg_nodeF (Or.inl h) (br_t rfl (br_t rfl (pg_rf (Or.inl h) ⟨rfl, pg_mk hI⟩)))
    · exact xg_nodeF (Or.inr h) (br_t rfl (br_t rfl (pg_rf (Or.inr h) ⟨rfl, pg_mk hI⟩)))
    · have hin : vp_in (nI j) 32 := vp_in_nI (by omega) (by decide)
      have hcl : (nI j).toNatClampNeg = j := nI_clamp (by omega)
      refine xg_nodeT hn hj (br_f (by decide) ⟨hin, ?_⟩)
      by_cases h0 : U j = 0
      · have h0' : U (nI j).toNatClampNeg = 0 := by rw [hcl]; exact h0
        have hI' := pg_inv_u hI hj h0
        exact br_t h0' ⟨hin, nm_r (e' := upd U j 1) (by rw [hcl, pg_vb1]) (nm_r (nI_1 q) (br_t rfl (pg_rt rfl hj (by omega) ⟨hin, br_t h0' ⟨hin, nm_r (e' := upd U j 1) (by rw [hcl, pg_vb1]) ⟨rfl, pg_mk hI'⟩⟩⟩)))⟩
      · have h0' : ¬ U (nI j).toNatClampNeg = 0 := by rw [hcl]; exact h0
        exact br_f h0' (br_t rfl (pg_rt rfl hj (by omega) ⟨hin, br_f h0' ⟨rfl, pg_mk hI⟩⟩))
  · exact br_f (by decide) (br_f (by decide) ⟨rfl, pg_mk hI⟩)
theorem i_vc_seal {k : Nat} {u : SX} {v : SY} (I : i_Rel k u v) (hk : k + 4 ≤ 2050) : wpX_seal (fun r u' => wpY_seal (fun r' v' => r' = r ∧ i_Rel (k + 4) u' v') v) u := by
  obtain ⟨NL, IL, n, m, q, t, se, K, A, B, O, U, ST, DB, TV, TT, G, F, V, W, rfl, rfl, hI⟩ := I
  rcases pg_se hI with ⟨rfl, rfl⟩ | ⟨rfl, _, _⟩
  · have hn := pg_n32 hI
    have hm := pg_m10 hI
    have hq : q = pg_cnt (fun j => decide (¬ U j = 0)) n := hI.2.2.2.2.1
    have hqn : q ≤ n := by rw [hq]; exact pg_cnt_le _ _
    refine br_t rfl ?_
    by_cases m0 : m = 0
    · subst m0
      exact br_t rfl (br_t rfl (br_t rfl ⟨rfl, pg_mk hI⟩))
    · have hmz : ¬ nI m = 0 := nI_ne0 (by omega) (by omega)
      refine br_f hmz ?_
      by_cases q0 : q = 0
      · have hno : ∀ j, j < n → U j = 0 := by
          intro j hj
          by_cases e : U j = 0
          · exact e
          · have := pg_cnt_1 (p := fun j => decide (¬ U j = 0)) (i := j) (decide_eq_true e) hj
            omega
        refine br_t (by rw [q0]; rfl) (br_t rfl (br_f hmz ⟨n + 1, (yg_20 hn (fun ⟨j, hj, hu⟩ => absurd (hno j hj) hu) (fun _ => ⟨rfl, pg_mk hI⟩) n 0 (by omega)).2 lt_0⟩))
      · refine br_f (nI_ne0 (by omega) (by omega)) ⟨65, xg_seal_l 64 0 ST DB rfl (fun st db _ h2 h3 => ?_)⟩
        have h2' : ∀ j, j < 64 → st j = 0 ∧ db j = -1 := fun j hj => h2 j (Nat.zero_le _) hj
        have hI' := pg_inv_s hI h2'
        refine br_t rfl (br_f hmz ⟨n + 1, (yg_20 hn (fun _ => yg_seal_l h2' ⟨rfl, pg_mk hI'⟩ 64 0 ST DB rfl lt_0 h3) (fun z => ?_) n 0 (by omega)).2 lt_0⟩)
        refine absurd ?_ q0
        rw [hq]
        exact pg_cnt_0 n (fun j hj => decide_eq_false (fun w => w (z j hj)))
  · exact br_f (by decide) (br_f (by decide) ⟨rfl, pg_mk hI⟩)
end PGK
end
section
section PGL
variable {NL IL n m q t : Nat} {se : Int32} {K A B O U ST DB TV TT G F V W : Nat → Int32}
/-! nextTest -/
theorem pg_inv_2 {f : Nat} (h : pg_Inv NL IL n m q t 1 K A B U ST DB) (h0 : ST f = 0) : pg_Inv NL IL n m q t 1 K A B U (upd ST f 2) DB := by
  obtain ⟨hl, hw, hb, hz, hq, hs⟩ := h
  rcases hs with ⟨h1, _⟩ | ⟨_, ht, hfit⟩
  · exact absurd h1 (by decide)
  · exact ⟨hl, hw, hb, hz, hq, Or.inr ⟨rfl, Nat.le_trans ht pg_done_2, pg_fit_2 hfit h0⟩⟩
theorem pg_inv_t {f : Nat} {dt : Nat → Bool} {tt : Int32} (h : pg_Inv NL IL n m q t 1 K A B U ST DB) (h0 : ST f = 0) (hd : dt f = true) (hf : f < 2 * n) : pg_Inv NL IL n m q (t + 1) 1 K A B U (pg_st ST dt (2 * n)) (pg_db ST DB dt tt (2 * n)) := by
  obtain ⟨hl, hw, hb, hz, hq, hs⟩ := h
  rcases hs with ⟨h1, _⟩ | ⟨_, ht, hfit⟩
  · exact absurd h1 (by decide)
  · have hlt := pg_done_s (i := 2 * n) h0 hd hf
    exact ⟨hl, hw, hb, hz, hq, Or.inr ⟨rfl, by omega, pg_fit_s hfit⟩⟩
theorem i_vc_nextTest {k : Nat} {u : SX} {v : SY} (I : i_Rel k u v) (hk : k + 4 ≤ 2050) : wpX_nextTest (fun r u' => wpY_nextTest (fun r' v' => r' = r ∧ i_Rel (k + 4) u' v') v) u := by
  obtain ⟨NL, IL, n, m, q, t, se, K, A, B, O, U, ST, DB, TV, TT, G, F, V, W, rfl, rfl, hI⟩ := I
  have hn := pg_n32 hI
  have hw := pg_wf hI
  obtain ⟨M, hM, hM2⟩ := pg_M hI
  rcases pg_se hI with ⟨rfl, rfl⟩ | ⟨rfl, ht, _⟩
  · exact br_t rfl (br_t rfl ⟨rfl, pg_mk hI⟩)
  · refine br_f (by decide) ?_
    by_cases hz : ∃ f, f < 2 * n ∧ ST f = 0
    · have t64 : t < 64 := by
        obtain ⟨f, hf, h0⟩ := hz
        have := pg_done_x h0 hf
        omega
      refine br_t (nI_lt (b := 64) t64 (by decide)) (xg_luf hn (fun f hf h0 hl => ?_) (fun hno => ?_))
      · refine br_f (pg_n1 (by omega)) (xg_ldv hw hn hf hM hM2 (fun v hv hd hlv G' F' => ?_) (fun hlv G' F' => ?_))
        · refine br_f (pg_n1 (by omega)) (xg_rec hw hn t64 (fun G2 F2 => ?_))
          exact br_f (by decide) ⟨2 * n + 1, yg_14b hn hf hM h0 hl (yg_64b hw hn hM hM2 hv hf t64 hd hlv (fun V' W' => ⟨rfl, pg_mk (pg_inv_t hI h0 hd hf)⟩) M 0 V W (by omega) (by omega)) (2 * n) 0 (by omega) (by omega)⟩
        · have hcl : (nI f).toNatClampNeg = f := nI_clamp (by omega)
          refine br_t rfl ⟨vp_in_nI (by omega) (by decide), nm_r (e' := upd ST f 2) (by rw [hcl]) ?_⟩
          exact br_f (by decide) ⟨2 * n + 1, yg_14b hn hf hM h0 hl (yg_64n hw hn hM hM2 hf hlv (fun V' W' => ⟨rfl, pg_mk (pg_inv_2 hI h0)⟩) M 0 V W (by omega)) (2 * n) 0 (by omega) (by omega)⟩
      · obtain ⟨f, hf, h0⟩ := hz
        exact absurd h0 (hno f hf)
    · have hno : ∀ j, j < 2 * n → ¬ ST j = 0 := fun j hj h0 => hz ⟨j, hj, h0⟩
      refine br_c (fun _ => xg_luf hn (fun f hf h0 _ => absurd h0 (hno f hf)) (fun _ => br_t rfl ?_)) (fun _ => ?_)
      · exact br_f (by decide) ⟨2 * n + 1, yg_14n hn hno ⟨rfl, pg_mk hI⟩ (2 * n) 0 (by omega)⟩
      · exact br_f (by decide) ⟨2 * n + 1, yg_14n hn hno ⟨rfl, pg_mk hI⟩ (2 * n) 0 (by omega)⟩
end PGL
end

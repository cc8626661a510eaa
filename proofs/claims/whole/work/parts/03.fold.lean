section PGC
/-! the marks of one test, as closed forms -/
def pg_st (st : Nat → Int32) (dt : Nat → Bool) (i : Nat) : Nat → Int32 := fun j => if j < i ∧ st j = 0 ∧ dt j = true then 1 else st j
def pg_db (st db : Nat → Int32) (dt : Nat → Bool) (t : Int32) (i : Nat) : Nat → Int32 := fun j => if j < i ∧ st j = 0 ∧ dt j = true then t else db j
theorem pg_st_0 (st : Nat → Int32) (dt : Nat → Bool) : pg_st st dt 0 = st := by
  funext j
  unfold pg_st
  rw [if_neg (fun z => absurd z.1 (Nat.not_lt_zero _))]
theorem pg_db_0 (st db : Nat → Int32) (dt : Nat → Bool) (t : Int32) : pg_db st db dt t 0 = db := by
  funext j
  unfold pg_db
  rw [if_neg (fun z => absurd z.1 (Nat.not_lt_zero _))]
theorem pg_st_i (st : Nat → Int32) (dt : Nat → Bool) (i : Nat) : pg_st st dt i i = st i := by
  unfold pg_st
  rw [if_neg (fun z => absurd z.1 (Nat.lt_irrefl _))]
theorem pg_st_t {st : Nat → Int32} {dt : Nat → Bool} {i : Nat} (h0 : st i = 0) (hd : dt i = true) : upd (pg_st st dt i) i 1 = pg_st st dt (i + 1) := by
  funext j
  by_cases e : j = i
  · subst e
    rw [pk_us]
    unfold pg_st
    rw [if_pos ⟨Nat.lt_succ_self _, h0, hd⟩]
  · rw [pk_un e]
    unfold pg_st
    by_cases h : j < i ∧ st j = 0 ∧ dt j = true
    · rw [if_pos h, if_pos ⟨Nat.lt_succ_of_lt h.1, h.2⟩]
    · rw [if_neg h, if_neg (fun z => h ⟨by have := z.1; omega, z.2⟩)]
theorem pg_db_t {st db : Nat → Int32} {dt : Nat → Bool} {t : Int32} {i : Nat} (h0 : st i = 0) (hd : dt i = true) : upd (pg_db st db dt t i) i t = pg_db st db dt t (i + 1) := by
  funext j
  by_cases e : j = i
  · subst e
    rw [pk_us]
    unfold pg_db
    rw [if_pos ⟨Nat.lt_succ_self _, h0, hd⟩]
  · rw [pk_un e]
    unfold pg_db
    by_cases h : j < i ∧ st j = 0 ∧ dt j = true
    · rw [if_pos h, if_pos ⟨Nat.lt_succ_of_lt h.1, h.2⟩]
    · rw [if_neg h, if_neg (fun z => h ⟨by have := z.1; omega, z.2⟩)]
theorem pg_st_n {st : Nat → Int32} {dt : Nat → Bool} {i : Nat} (hn : ¬ (st i = 0 ∧ dt i = true)) : pg_st st dt i = pg_st st dt (i + 1) := by
  funext j
  unfold pg_st
  by_cases h : j < i ∧ st j = 0 ∧ dt j = true
  · rw [if_pos h, if_pos ⟨Nat.lt_succ_of_lt h.1, h.2⟩]
  · rw [if_neg h, if_neg]
    intro z
    by_cases e : j = i
    · subst e; exact hn z.2
    · exact h ⟨by have := z.1; omega, z.2⟩
theorem pg_db_n {st db : Nat → Int32} {dt : Nat → Bool} {t : Int32} {i : Nat} (hn : ¬ (st i = 0 ∧ dt i = true)) : pg_db st db dt t i = pg_db st db dt t (i + 1) := by
  funext j
  unfold pg_db
  by_cases h : j < i ∧ st j = 0 ∧ dt j = true
  · rw [if_pos h, if_pos ⟨Nat.lt_succ_of_lt h.1, h.2⟩]
  · rw [if_neg h, if_neg]
    intro z
    by_cases e : j = i
    · subst e; exact hn z.2
    · exact h ⟨by have := z.1; omega, z.2⟩
/-- how many faults below i are no longer untried -/
def pg_done (st : Nat → Int32) (i : Nat) : Nat := pg_cnt (fun f => decide (¬ st f = 0)) i
theorem pg_done_x {st : Nat → Int32} {f i : Nat} (h : st f = 0) (hf : f < i) : pg_done st i < i :=
  pg_cnt_x (i := f) (decide_eq_false (fun z => z h)) hf
theorem pg_done_2 {st : Nat → Int32} {f i : Nat} : pg_done st i ≤ pg_done (upd st f 2) i := by
  refine pg_cnt_m i (fun j _ h => ?_)
  have h1 : ¬ st j = 0 := of_decide_eq_true h
  refine decide_eq_true ?_
  by_cases e : j = f
  · rw [e, pk_us]; decide
  · rw [pk_un e]; exact h1
theorem pg_done_s {st : Nat → Int32} {dt : Nat → Bool} {f i : Nat} (h0 : st f = 0) (hd : dt f = true) (hf : f < i) : pg_done st i < pg_done (pg_st st dt i) i := by
  refine pg_cnt_s (i := f) (decide_eq_false (fun z => z h0)) (decide_eq_true ?_) i hf (fun j _ h => ?_)
  · unfold pg_st
    rw [if_pos ⟨hf, h0, hd⟩]
    decide
  · have h1 : ¬ st j = 0 := of_decide_eq_true h
    refine decide_eq_true ?_
    unfold pg_st
    rw [if_neg (fun z => h1 z.2.1)]
    exact h1
/-- the marks and the detecting tests fit -/
def pg_Fit (st db : Nat → Int32) (N : Nat) : Prop := ∀ f, f < N → ¬ st f = 1 → db f = -1
theorem pg_fit_2 {st db : Nat → Int32} {f N : Nat} (h : pg_Fit st db N) (h0 : st f = 0) : pg_Fit (upd st f 2) db N := by
  intro j hj hn
  by_cases e : j = f
  · subst e
    exact h j hj (by rw [h0]; decide)
  · rw [pk_un e] at hn
    exact h j hj hn
theorem pg_fit_s {st db : Nat → Int32} {dt : Nat → Bool} {t : Int32} {N : Nat} (h : pg_Fit st db N) : pg_Fit (pg_st st dt N) (pg_db st db dt t N) N := by
  intro j hj hn
  unfold pg_st at hn
  unfold pg_db
  by_cases c : j < N ∧ st j = 0 ∧ dt j = true
  · rw [if_pos c] at hn
    exact absurd rfl hn
  · rw [if_neg c] at hn ⊢
    exact h j hj hn
/-- 1 shifted by the number of inputs -/
theorem pg_sh {m : Nat} (h : m ≤ 10) : (1 : Int32) <<< (nI m &&& 31) = nI (2 ^ m) := by
  have h1 := pk_shlN (n := 1) (nI m &&& 31) m (s_l m (by omega)) (by
    have : 2 ^ m ≤ 2 ^ 10 := Nat.pow_le_pow_right (by decide) h
    omega)
  rw [Nat.one_mul] at h1
  exact h1
theorem pg_p10 {m : Nat} (h : m ≤ 10) : 2 ^ m ≤ 1024 := by
  have h1 : 2 ^ m ≤ 2 ^ 10 := Nat.pow_le_pow_right (by decide) h
  omega
end PGC

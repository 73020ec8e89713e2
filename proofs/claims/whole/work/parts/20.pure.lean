/-! small numbers, answers of small methods -/
def wth (a lo hi : Int32) : Int32 := if a < lo then 0 else if hi < a then 0 else 1
def hasV (s d : Int32) : Int32 := if d < 0 then 0 else if s ≤ d then 0 else 1
theorem wth_01 (a lo hi : Int32) : wth a lo hi = 0 ∨ wth a lo hi = 1 := by
  unfold wth
  split
  · exact Or.inl rfl
  · split
    · exact Or.inl rfl
    · exact Or.inr rfl
theorem hasV_01 (s d : Int32) : hasV s d = 0 ∨ hasV s d = 1 := by
  unfold hasV
  split
  · exact Or.inl rfl
  · split
    · exact Or.inl rfl
    · exact Or.inr rfl
theorem ite_01 {p : Prop} [Decidable p] : (if p then (0 : Int32) else 1) = 0 ∨ (if p then (0 : Int32) else 1) = 1 := by
  split
  · exact Or.inl rfl
  · exact Or.inr rfl
theorem ite_10 {p : Prop} [Decidable p] : (if p then (1 : Int32) else 0) = 0 ∨ (if p then (1 : Int32) else 0) = 1 := by
  split
  · exact Or.inr rfl
  · exact Or.inl rfl
theorem hasV_in {n j : Nat} (h : j < n) (hn : n < 2 ^ 31) : hasV (nI n) (nI j) = 1 := by
  unfold hasV
  rw [if_neg (nI_pos (by omega)), if_neg (nI_ge h hn)]
theorem hasV_cases {n : Nat} (hn : n < 2 ^ 31) (d : Int32) : hasV (nI n) d = 0 ∨ ∃ j : Nat, j < n ∧ d = nI j := by
  rcases pk_ix d hn with h | h | h
  · left; unfold hasV; rw [if_pos h]
  · left
    unfold hasV
    rw [if_pos h]
    split <;> rfl
  · exact Or.inr h
theorem wth_nI {lo hi : Nat} (h1 : lo ≤ hi) (h : hi < 2 ^ 31) (x : Int32) : wth x (nI lo) (nI hi) = 0 ∨ ∃ j : Nat, lo ≤ j ∧ j ≤ hi ∧ x = nI j := by
  unfold wth
  by_cases c1 : x < nI lo
  · left; rw [if_pos c1]
  · by_cases c2 : nI hi < x
    · left; rw [if_neg c1, if_pos c2]
    · right
      have hlo := nI_toInt (n := lo) (by omega)
      have hhi := nI_toInt (n := hi) h
      rw [Int32.lt_iff_toInt_lt] at c1 c2
      have h0 : ¬ x < 0 := by
        rw [Int32.lt_iff_toInt_lt]
        have : (0 : Int32).toInt = 0 := by decide
        omega
      obtain ⟨j, hj, rfl⟩ := nI_of h0
      have hj2 := nI_toInt hj
      exact ⟨j, by omega, by omega, rfl⟩
theorem wth_toInt {x lo hi : Int32} (h : ¬ wth x lo hi = 0) : lo.toInt ≤ x.toInt ∧ x.toInt ≤ hi.toInt := by
  unfold wth at h
  by_cases c1 : x < lo
  · rw [if_pos c1] at h; exact absurd rfl h
  · by_cases c2 : hi < x
    · rw [if_neg c1, if_pos c2] at h; exact absurd rfl h
    · rw [Int32.lt_iff_toInt_lt] at c1 c2
      omega
theorem pk_sub_toInt' {n : Nat} (hn : n < 2 ^ 31) : (nI n - 1 : Int32).toInt = (n : Int) - 1 := by
  rw [Int32.toInt_sub, nI_toInt hn, show (1 : Int32).toInt = 1 by decide]
  rw [Int.bmod_eq_of_le] <;> omega
/-- the model's 'in' over longs -/
def inV (v lo hi : Int64) : Int32 := if v < lo then 0 else if v > hi then 0 else 1
theorem inV_01 (v lo hi : Int64) : inV v lo hi = 0 ∨ inV v lo hi = 1 := by
  unfold inV
  split
  · exact Or.inl rfl
  · split
    · exact Or.inl rfl
    · exact Or.inr rfl
theorem lt64 (a b : Int32) : (a.toInt64 < b.toInt64) ↔ a < b := by
  rw [Int64.lt_iff_toInt_lt, Int32.lt_iff_toInt_lt, Int32.toInt_toInt64, Int32.toInt_toInt64]
theorem le64 (a b : Int32) : (a.toInt64 ≤ b.toInt64) ↔ a ≤ b := by
  rw [Int64.le_iff_toInt_le, Int32.le_iff_toInt_le, Int32.toInt_toInt64, Int32.toInt_toInt64]
theorem inV_wth (a lo hi : Int32) : inV a.toInt64 lo.toInt64 hi.toInt64 = wth a lo hi := by
  unfold inV wth
  simp only [gt_iff_lt, lt64]
theorem inV_has {n : Nat} (hn : n < 2 ^ 31) (d : Int32) : inV d.toInt64 0 (nI n - 1).toInt64 = hasV (nI n) d := by
  rw [show (0 : Int64) = (0 : Int32).toInt64 by decide, inV_wth]
  unfold wth hasV
  have e1 : (nI n - 1 : Int32).toInt = (n : Int) - 1 := by
    have h9 := pk_sub_toInt' hn
    exact h9
  by_cases c : d < 0
  · rw [if_pos c, if_pos c]
  · rw [if_neg c, if_neg c]
    have : (nI n - 1 < d) ↔ (nI n ≤ d) := by
      rw [Int32.lt_iff_toInt_lt, Int32.le_iff_toInt_le, e1, nI_toInt hn]
      omega
    simp only [this]

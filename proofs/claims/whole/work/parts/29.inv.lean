/-! what stays: class and model hold the same; and it is valid -/
def prs : List (Nat × Nat) := [(3, 73), (4, 74), (5, 76), (6, 77), (7, 75), (8, 78), (9, 79), (11, 80), (12, 81), (13, 82), (14, 83), (16, 84), (17, 85), (18, 86), (19, 87), (20, 88), (21, 90), (23, 91), (24, 92), (25, 93), (27, 96), (28, 97), (29, 98), (30, 94), (31, 95)]
def Rel (M : MM) : Prop := ∀ p ∈ prs, M.1 p.2 = M.1 p.1
theorem rel_row {M : MM} (R : Rel M) : ∀ k ∈ rowL, M.1 k = mS M k := fun k hk => by
  have h : ∀ k ∈ rowL, (k, mp k) ∈ prs := by decide
  exact (R _ (h k hk)).symm
def Sz (M : MM) (nd nw np ns nwd h b : Nat) : Prop :=
  M.1 2 7 = nI nd ∧ M.1 72 0 = nI nd ∧ M.1 10 4 = nI nw ∧ M.1 72 8 = nI nw ∧ M.1 15 7 = nI np ∧ M.1 72 13 = nI np ∧ M.1 22 3 = nI ns ∧ M.1 72 21 = nI ns ∧ M.1 32 1 = nI nwd ∧ M.1 72 32 = nI nwd ∧ nwd ≤ 3 ∧
  M.1 1 7 = nI h ∧ M.1 72 27 = nI h ∧ M.1 72 28 = M.1 1 8 ∧ M.1 15 6 = nI b ∧ b < 2 ^ np ∧ (∀ p, p < 4 → M.1 89 p = bitI b p)
def VW (M : MM) (nwd : Nat) : Prop := ∀ w, w < 3 → ∀ k, k < 6 → ∃ v : Nat, v ≤ 100 ∧ M.1 (34 + w) k = nI v ∧ M.1 99 (6 * w + k) = nI v ∧ (nwd ≤ w → v = 0)
def VS (M : MM) : Prop := ∀ k, k < 4 → ((M.1 71 k = -1 ∧ M.1 104 k = -4) ∨ ∃ z l : Nat, z ≤ 60 ∧ l < 3 ∧ M.1 71 k = nI z ∧ M.1 105 k = nI z ∧ M.1 70 k = nI l ∧ M.1 104 k = nI l) ∧ ∀ i, i < 60 → M.1 (66 + k) i = M.1 106 (60 * k + i)
def tot (W : Nat → Int32) : Nat → Int
  | 0 => 0
  | k + 1 => tot W k + (W k).toInt
def WB (W : Nat → Int32) (n : Nat) (B : Int) : Prop := (∀ d, d < n → 0 ≤ (W d).toInt) ∧ tot W n ≤ B
def Inv (M : MM) (T : Nat) : Prop := ∃ nd nw np ns nwd h b : Nat, Sz M nd nw np ns nwd h b ∧ Rel M ∧ VLd M.1 nd nw np ns ∧ VW M nwd ∧ VS M ∧ WB (M.1 7) nd (100000 * nd + 30000 * h) ∧ h ≤ T
theorem Inv.mono {M : MM} {T T' : Nat} (h : T ≤ T') (I : Inv M T) : Inv M T' := by
  obtain ⟨nd, nw, np, ns, nwd, hh, b, i1, i2, i3, i4, i5, i6, i7⟩ := I
  exact ⟨nd, nw, np, ns, nwd, hh, b, i1, i2, i3, i4, i5, i6, Nat.le_trans i7 h⟩
theorem VW.congr {M M' : MM} {nwd : Nat} (h : ∀ k, k = 34 ∨ k = 35 ∨ k = 36 ∨ k = 99 → M'.1 k = M.1 k) (V : VW M nwd) : VW M' nwd := by
  intro w hw k hk
  rw [h (34 + w) (by omega), h 99 (by omega)]
  exact V w hw k hk
theorem VS.congr {M M' : MM} (h : ∀ k, (66 ≤ k ∧ k ≤ 71) ∨ (104 ≤ k ∧ k ≤ 106) → M'.1 k = M.1 k) (V : VS M) : VS M' := by
  intro k hk
  rw [h 71 (by omega), h 104 (by omega), h 105 (by omega), h 70 (by omega), h 106 (by omega), h (66 + k) (by omega)]
  exact V k hk
theorem fin (a lo hi : Int32) {lo' hi' : Int64} (h1 : lo.toInt64 = lo') (h2 : hi.toInt64 = hi') (M : MM) : Fn 1 mX10_in [.long a.toInt64, .long lo', .long hi'] M (some (.int (wth a lo hi))) M := by
  subst h1; subst h2
  rw [← inV_wth]
  exact fn_X10_in _ _ _ M
theorem fis {n : Nat} (hn : n < 2 ^ 31) {s : Int32} (hs : s = nI n) (d : Int32) (M : MM) : Fn 1 mX10_in [.long d.toInt64, .long 0, .long (s - 1).toInt64] M (some (.int (hasV (nI n) d))) M := by
  subst hs
  rw [← inV_has hn]
  exact fn_X10_in _ _ _ M
theorem fisD {n : Nat} (hn : n < 2 ^ 31) {M : MM} (hs : M.1 72 0 = nI n) (d : Int32) : Fn 2 mX10_isDitch [.ref 72, .int d] M (some (.int (hasV (nI n) d))) M := by
  have := fn_X10_isDitch d M
  rw [hs, inV_has hn] at this
  exact this
theorem fhasD {n : Nat} {M : MM} (hs : M.1 2 7 = nI n) (d : Int32) : Fn 1 mX0_has [.ref 2, .int d] M (some (.int (hasV (nI n) d))) M := by
  have := fn_X0_has d M
  rw [hs] at this
  exact this
theorem fhasP {n : Nat} {M : MM} (hs : M.1 15 7 = nI n) (d : Int32) : Fn 1 mX4_has [.ref 15, .int d] M (some (.int (hasV (nI n) d))) M := by
  have := fn_X4_has d M
  rw [hs] at this
  exact this
theorem fhasS {n : Nat} {M : MM} (hs : M.1 22 3 = nI n) (d : Int32) : Fn 1 mX6_has [.ref 22, .int d] M (some (.int (hasV (nI n) d))) M := by
  have := fn_X6_has d M
  rw [hs] at this
  exact this
theorem fhasW {n : Nat} {M : MM} (hs : M.1 10 4 = nI n) (d : Int32) : Fn 1 mX7_has [.ref 10, .int d] M (some (.int (hasV (nI n) d))) M := by
  have := fn_X7_has d M
  rw [hs] at this
  exact this
theorem fhasO {n : Nat} {M : MM} (hs : M.1 32 1 = nI n) (d : Int32) : Fn 1 mX8_has [.ref 32, .int d] M (some (.int (hasV (nI n) d))) M := by
  have := fn_X8_has d M
  rw [hs] at this
  exact this
theorem ui_same (M : MM) (k j : Nat) (v : Int32) : (ui M k j v).1 k = upd (M.1 k) j v := by rw [ui_row, uc_at]
theorem ui_diff {M : MM} {k j a : Nat} {v : Int32} (h : a ≠ k) : (ui M k j v).1 a = M.1 a := ui_ne h
/-- rows that grow -/
theorem upd_lt {f : Nat → Int32} {n k : Nat} {x : Int32} (h : k < n) : upd f n x k = f k := upd_ne (by omega)
theorem toNI {x : Int32} {lo hi : Nat} (h1 : lo ≤ hi) (h2 : hi < 2 ^ 31) (h : ¬ wth x (nI lo) (nI hi) = 0) : ∃ j : Nat, lo ≤ j ∧ j ≤ hi ∧ x = nI j := (wth_nI h1 h2 x).resolve_left h

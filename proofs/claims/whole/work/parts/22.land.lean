/-! the land's rows by the class's places; the model's rows by the same numbers -/
def mp : Nat → Nat
  | 3 => 73 | 4 => 74 | 5 => 76 | 6 => 77 | 11 => 80 | 12 => 81 | 13 => 82 | 14 => 83 | 16 => 84 | 17 => 85 | 18 => 86 | 19 => 87 | 20 => 88 | 23 => 91 | 24 => 92 | 25 => 93 | 30 => 94 | 31 => 95
  | k => 72 + k
abbrev SS : Type := Nat → Nat → Int32
def mS (M : MM) : SS := fun k => M.1 (mp k)
def rowL : List Nat := [3, 4, 5, 6, 11, 12, 13, 14, 16, 17, 18, 19, 20, 23, 24, 25, 30, 31]
def lev (S : SS) (W : Nat → Int32) (d : Nat) : Int32 := S 4 d + W d / S 3 d
def brc (S : SS) (W : Nat → Int32) (d : Nat) : Int32 := if S 5 d ≤ lev S W d then (if lev S W d ≤ S 6 d then 0 else lev S W d - S 6 d) else S 5 d - lev S W d
def VLd (S : SS) (nd nw np ns : Nat) : Prop :=
  nd ≤ 6 ∧ nw ≤ 8 ∧ np ≤ 4 ∧ ns ≤ 4 ∧
  (∀ d, d < nd → (∃ A : Nat, 1 ≤ A ∧ A ≤ 50 ∧ S 3 d = nI A) ∧ -500 ≤ (S 4 d).toInt ∧ (S 4 d).toInt ≤ 500 ∧ -1000 ≤ (S 5 d).toInt ∧ (S 5 d).toInt ≤ 1000 ∧ -1000 ≤ (S 6 d).toInt ∧ (S 6 d).toInt ≤ 1000) ∧
  (∀ k, k < nw → ∃ a b x : Nat, a < nd ∧ b < nd ∧ a ≠ b ∧ 1 ≤ x ∧ x ≤ 50 ∧ S 11 k = nI a ∧ S 12 k = nI b ∧ S 14 k = nI x) ∧
  (∀ k, k < np → (∃ a : Nat, a < nd ∧ S 16 k = nI a ∧ (S 17 k = -4 ∨ ∃ b : Nat, b < nd ∧ a ≠ b ∧ S 17 k = nI b)) ∧ (∃ x : Nat, 1 ≤ x ∧ x ≤ 1000 ∧ S 18 k = nI x) ∧ (∃ x : Nat, 1 ≤ x ∧ x ≤ 6 ∧ S 19 k = nI x) ∧ (∃ x : Nat, x < 16777216 ∧ S 20 k = nI x)) ∧
  (∀ k, k < ns → (∃ a : Nat, a < nd ∧ S 23 k = nI a) ∧ (∃ x : Nat, 1 ≤ x ∧ x ≤ 50 ∧ S 24 k = nI x)) ∧
  (∀ k, k < 4 → S 25 k = 0 ∨ S 25 k = 1) ∧ (∀ i, i < 24 → ∃ v : Nat, v ≤ 100 ∧ S 31 i = nI v)
section VLd
variable {S : SS} {nd nw np ns : Nat}
theorem VLd.d6 (V : VLd S nd nw np ns) : nd ≤ 6 := V.1
theorem VLd.w8 (V : VLd S nd nw np ns) : nw ≤ 8 := V.2.1
theorem VLd.p4 (V : VLd S nd nw np ns) : np ≤ 4 := V.2.2.1
theorem VLd.s4 (V : VLd S nd nw np ns) : ns ≤ 4 := V.2.2.2.1
theorem VLd.A (V : VLd S nd nw np ns) {d : Nat} (h : d < nd) : ∃ A : Nat, 1 ≤ A ∧ A ≤ 50 ∧ S 3 d = nI A := (V.2.2.2.2.1 d h).1
theorem VLd.B (V : VLd S nd nw np ns) {d : Nat} (h : d < nd) : -500 ≤ (S 4 d).toInt ∧ (S 4 d).toInt ≤ 500 ∧ -1000 ≤ (S 5 d).toInt ∧ (S 5 d).toInt ≤ 1000 ∧ -1000 ≤ (S 6 d).toInt ∧ (S 6 d).toInt ≤ 1000 := (V.2.2.2.2.1 d h).2
theorem VLd.w (V : VLd S nd nw np ns) {k : Nat} (h : k < nw) : ∃ a b x : Nat, a < nd ∧ b < nd ∧ a ≠ b ∧ 1 ≤ x ∧ x ≤ 50 ∧ S 11 k = nI a ∧ S 12 k = nI b ∧ S 14 k = nI x := V.2.2.2.2.2.1 k h
theorem VLd.p (V : VLd S nd nw np ns) {k : Nat} (h : k < np) : ∃ a : Nat, a < nd ∧ S 16 k = nI a ∧ (S 17 k = -4 ∨ ∃ b : Nat, b < nd ∧ a ≠ b ∧ S 17 k = nI b) := (V.2.2.2.2.2.2.1 k h).1
theorem VLd.r (V : VLd S nd nw np ns) {k : Nat} (h : k < np) : ∃ x : Nat, 1 ≤ x ∧ x ≤ 1000 ∧ S 18 k = nI x := (V.2.2.2.2.2.2.1 k h).2.1
theorem VLd.l (V : VLd S nd nw np ns) {k : Nat} (h : k < np) : ∃ x : Nat, 1 ≤ x ∧ x ≤ 6 ∧ S 19 k = nI x := (V.2.2.2.2.2.2.1 k h).2.2.1
theorem VLd.q (V : VLd S nd nw np ns) {k : Nat} (h : k < np) : ∃ x : Nat, x < 16777216 ∧ S 20 k = nI x := (V.2.2.2.2.2.2.1 k h).2.2.2
theorem VLd.s (V : VLd S nd nw np ns) {k : Nat} (h : k < ns) : (∃ a : Nat, a < nd ∧ S 23 k = nI a) ∧ (∃ x : Nat, 1 ≤ x ∧ x ≤ 50 ∧ S 24 k = nI x) := V.2.2.2.2.2.2.2.1 k h
theorem VLd.o (V : VLd S nd nw np ns) {k : Nat} (h : k < 4) : S 25 k = 0 ∨ S 25 k = 1 := V.2.2.2.2.2.2.2.2.1 k h
theorem VLd.pr (V : VLd S nd nw np ns) {i : Nat} (h : i < 24) : ∃ v : Nat, v ≤ 100 ∧ S 31 i = nI v := V.2.2.2.2.2.2.2.2.2 i h
end VLd
theorem VLd.congr {S S' : SS} {nd nw np ns : Nat} (h : ∀ k ∈ rowL, S k = S' k) (V : VLd S nd nw np ns) : VLd S' nd nw np ns := by
  have h3 := h 3 (by decide); have h4 := h 4 (by decide); have h5 := h 5 (by decide); have h6 := h 6 (by decide)
  have h11 := h 11 (by decide); have h12 := h 12 (by decide); have h14 := h 14 (by decide)
  have h16 := h 16 (by decide); have h17 := h 17 (by decide); have h18 := h 18 (by decide); have h19 := h 19 (by decide); have h20 := h 20 (by decide)
  have h23 := h 23 (by decide); have h24 := h 24 (by decide); have h25 := h 25 (by decide); have h31 := h 31 (by decide)
  unfold VLd at V ⊢
  rw [← h3, ← h4, ← h5, ← h6, ← h11, ← h12, ← h14, ← h16, ← h17, ← h18, ← h19, ← h20, ← h23, ← h24, ← h25, ← h31]
  exact V
theorem nI_ne_zero {A : Nat} (h : 1 ≤ A) (h2 : A < 2 ^ 31) : ¬ nI A = 0 := nI_ne0 h h2
theorem lev_congr {S S' : SS} (h : ∀ k ∈ rowL, S k = S' k) (W : Nat → Int32) (d : Nat) : lev S W d = lev S' W d := by
  unfold lev
  rw [h 3 (by decide), h 4 (by decide)]
theorem brc_congr {S S' : SS} (h : ∀ k ∈ rowL, S k = S' k) (W : Nat → Int32) (d : Nat) : brc S W d = brc S' W d := by
  unfold brc
  rw [lev_congr h, h 5 (by decide), h 6 (by decide)]
theorem fn_X0_level {M : MM} {d w A : Nat} (hw : shp w = (1, 0, 6, [])) (hd : d < 6) (h1 : 1 ≤ A) (h2 : A ≤ 50) (hA : M.1 3 d = nI A) : Fn 1 mX0_level [.ref 2, .int (nI d), .ref w] M (some (.int (lev M.1 (M.1 w) d))) M := fn_intro ok_X0_level (Nat.le_of_ble_eq_true rfl) fun _ g gr => by
  refine b_X0_level_0 g gr (by decide) (nI d) w hw M ⟨vp_in_nI hd (by omega), ?_⟩
  rw [nI_clamp (show d < 2 ^ 31 by omega)]
  refine ⟨fun _ => ⟨?_, rfl, rfl⟩, fun c => ?_⟩
  · rw [hA]; exact nI_ne0 (by omega) (by omega)
  · exfalso; apply c; rw [hA]; exact nI_le (a := 1) h1 (by omega)
theorem fn_X10_level {M : MM} {d A : Nat} (hd : d < 6) (h1 : 1 ≤ A) (h2 : A ≤ 50) (hA : M.1 73 d = nI A) : Fn 1 mX10_level [.ref 72, .int (nI d)] M (some (.int (lev (mS M) (M.1 75) d))) M := fn_intro ok_X10_level (Nat.le_of_ble_eq_true rfl) fun _ g gr => by
  refine b_X10_level_0 g gr (by decide) (nI d) M ⟨vp_in_nI hd (by omega), ?_⟩
  rw [nI_clamp (show d < 2 ^ 31 by omega)]
  exact ⟨by rw [hA]; exact nI_ne0 (by omega) (by omega), rfl, rfl⟩
theorem fn_X0_breach {M : MM} {d w A : Nat} (hw : shp w = (1, 0, 6, [])) (hd : d < 6) (h1 : 1 ≤ A) (h2 : A ≤ 50) (hA : M.1 3 d = nI A) : Fn 2 mX0_breach [.ref 2, .int (nI d), .ref w] M (some (.int (brc M.1 (M.1 w) d))) M := fn_intro ok_X0_breach (Nat.le_of_ble_eq_true rfl) fun _ g gr => by
  refine b_X0_breach_0 g gr (by decide) (nI d) w hw M ⟨_, _, fn_X0_level hw hd h1 h2 hA, vp_in_nI hd (by omega), ?_⟩
  rw [nI_clamp (show d < 2 ^ 31 by omega)]
  unfold brc
  refine ⟨fun c => ⟨fun c2 => ?_, fun c2 => ?_⟩, fun c => ?_⟩
  · rw [if_pos c, if_pos c2]; exact ⟨rfl, rfl⟩
  · rw [if_pos c, if_neg c2]; exact ⟨rfl, rfl⟩
  · rw [if_neg c]; exact ⟨rfl, rfl⟩
theorem fn_X10_breach {M : MM} {d A : Nat} (hd : d < 6) (h1 : 1 ≤ A) (h2 : A ≤ 50) (hA : M.1 73 d = nI A) : Fn 2 mX10_breach [.ref 72, .int (nI d)] M (some (.int (brc (mS M) (M.1 75) d))) M := fn_intro ok_X10_breach (Nat.le_of_ble_eq_true rfl) fun _ g gr => by
  refine b_X10_breach_0 g gr (by decide) (nI d) M ⟨_, _, fn_X10_level hd h1 h2 hA, vp_in_nI hd (by omega), ?_⟩
  rw [nI_clamp (show d < 2 ^ 31 by omega)]
  unfold brc
  refine ⟨fun c => ⟨fun c2 => ?_, fun c2 => ?_⟩, fun c => ?_⟩
  · rw [if_pos (show mS M 5 d ≤ _ from c), if_pos (show _ ≤ mS M 6 d from c2)]; exact ⟨rfl, rfl⟩
  · rw [if_pos (show mS M 5 d ≤ _ from c), if_neg (show ¬ _ ≤ mS M 6 d from c2)]; exact ⟨rfl, rfl⟩
  · rw [if_neg (show ¬ mS M 5 d ≤ _ from c)]; exact ⟨rfl, rfl⟩
/-- sums from 0 -/
def sumL (f : Nat → Int64) : Nat → Int64
  | 0 => 0
  | k + 1 => sumL f k + f k
def sumI (f : Nat → Int32) : Nat → Int32
  | 0 => 0
  | k + 1 => sumI f k + f k
def allB (S : SS) (nd : Nat) (W : Nat → Int32) : Int64 := sumL (fun d => (brc S W d).toInt64) nd
def alm (S : SS) (nd : Nat) (W : Nat → Int32) : Int32 := sumI (fun d => if brc S W d ≤ 0 then 0 else 1) nd
theorem fn_X0_allBreach {M : MM} {nd nw np ns w : Nat} (V : VLd M.1 nd nw np ns) (hs : M.1 2 7 = nI nd) (hw : shp w = (1, 0, 6, [])) : Fn 3 mX0_allBreach [.ref 2, .ref w] M (some (.long (allB M.1 nd (M.1 w)))) M := fn_intro ok_X0_allBreach (Nat.le_of_ble_eq_true rfl) fun G g gr => by
  refine b_X0_allBreach_0 g gr (by decide) w hw M ?_
  have h6 := V.d6
  have loop : ∀ k j : Nat, j + k = nd → At_X0_allBreach_5 G w (sumL (fun d => (brc M.1 (M.1 w) d).toInt64) j) (nI j) M := by
    intro k
    induction k with
    | zero =>
      intro j hj
      refine b_X0_allBreach_5 g gr (by decide) w _ _ hw M ⟨fun _ => ⟨by rw [show j = nd by omega]; rfl, rfl⟩, fun c => ?_⟩
      exact absurd (by rw [hs]; exact nI_le (by omega) (by omega)) c
    | succ k ih =>
      intro j hj
      refine b_X0_allBreach_5 g gr (by decide) w _ _ hw M ⟨fun c => ?_, fun _ => ?_⟩
      · rw [hs, nI_leI (by omega) (by omega)] at c; omega
      · obtain ⟨A, a1, a2, a3⟩ := V.A (show j < nd by omega)
        refine ⟨_, _, fn_X0_breach hw (by omega) a1 a2 a3, ?_⟩
        intro x5 e5 x6 e6
        rw [e5, e6, nI_1]
        exact ih (j + 1) (by omega)
  exact loop nd 0 (by omega)
theorem fn_X0_alarms {M : MM} {nd nw np ns : Nat} (V : VLd M.1 nd nw np ns) (hs : M.1 2 7 = nI nd) : Fn 3 mX0_alarms [.ref 2] M (some (.int (alm M.1 nd (M.1 7)))) M := fn_intro ok_X0_alarms (Nat.le_of_ble_eq_true rfl) fun G g gr => by
  refine b_X0_alarms_0 g gr (by decide) M ?_
  have h6 := V.d6
  have loop : ∀ k j : Nat, j + k = nd → At_X0_alarms_4 G (alm M.1 j (M.1 7)) (nI j) M := by
    intro k
    induction k with
    | zero =>
      intro j hj
      refine b_X0_alarms_4 g gr (by decide) _ _ M ⟨fun _ => ⟨by rw [show j = nd by omega], rfl⟩, fun c => ?_⟩
      exact absurd (by rw [hs]; exact nI_le (by omega) (by omega)) c
    | succ k ih =>
      intro j hj
      refine b_X0_alarms_4 g gr (by decide) _ _ M ⟨fun c => ?_, fun _ => ?_⟩
      · rw [hs, nI_leI (by omega) (by omega)] at c; omega
      · obtain ⟨A, a1, a2, a3⟩ := V.A (show j < nd by omega)
        refine ⟨_, _, fn_X0_breach sh_7 (by omega) a1 a2 a3, ?_⟩
        intro x5 e5 x6 e6
        rw [e5, e6, nI_1]
        exact ih (j + 1) (by omega)
  exact loop nd 0 (by omega)
theorem fn_X10_alarms {M : MM} {nd nw np ns : Nat} (V : VLd (mS M) nd nw np ns) (hs : M.1 72 0 = nI nd) : Fn 3 mX10_alarms [.ref 72] M (some (.int (alm (mS M) nd (M.1 75)))) M := fn_intro ok_X10_alarms (Nat.le_of_ble_eq_true rfl) fun G g gr => by
  refine b_X10_alarms_0 g gr (by decide) M ?_
  have h6 := V.d6
  have loop : ∀ k j : Nat, j + k = nd → At_X10_alarms_4 G (alm (mS M) j (M.1 75)) (nI j) M := by
    intro k
    induction k with
    | zero =>
      intro j hj
      refine b_X10_alarms_4 g gr (by decide) _ _ M ⟨fun _ => ⟨by rw [show j = nd by omega], rfl⟩, fun c => ?_⟩
      exact absurd (by rw [hs]; exact nI_le (by omega) (by omega)) c
    | succ k ih =>
      intro j hj
      refine b_X10_alarms_4 g gr (by decide) _ _ M ⟨fun c => ?_, fun _ => ?_⟩
      · rw [hs, nI_leI (by omega) (by omega)] at c; omega
      · obtain ⟨A, a1, a2, a3⟩ := V.A (show j < nd by omega)
        refine ⟨_, _, fn_X10_breach (by omega) a1 a2 a3, ?_⟩
        intro x5 e5 x6 e6
        rw [e5, e6, nI_1]
        exact ih (j + 1) (by omega)
  exact loop nd 0 (by omega)
theorem fn_X0_allWater {M : MM} {nd : Nat} (h6 : nd ≤ 6) (hs : M.1 2 7 = nI nd) : Fn 1 mX0_allWater [.ref 2] M (some (.int (sumI (M.1 7) nd))) M := fn_intro ok_X0_allWater (Nat.le_of_ble_eq_true rfl) fun G g gr => by
  refine b_X0_allWater_0 g gr (by decide) M ?_
  have loop : ∀ k j : Nat, j + k = nd → At_X0_allWater_4 G (sumI (M.1 7) j) (nI j) M := by
    intro k
    induction k with
    | zero =>
      intro j hj
      refine b_X0_allWater_4 g gr (by decide) _ _ M ⟨fun _ => ⟨by rw [show j = nd by omega], rfl⟩, fun c => ?_⟩
      exact absurd (by rw [hs]; exact nI_le (by omega) (by omega)) c
    | succ k ih =>
      intro j hj
      refine b_X0_allWater_4 g gr (by decide) _ _ M ⟨fun c => ?_, fun _ => ⟨vp_in_nI (by omega) (by omega), ?_⟩⟩
      · rw [hs, nI_leI (by omega) (by omega)] at c; omega
      · intro x5 e5 x6 e6
        rw [e5, e6, nI_1, nI_clamp (by omega)]
        exact ih (j + 1) (by omega)
  exact loop nd 0 (by omega)

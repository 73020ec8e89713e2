/-! step; sheets: what is asked of them; rain -/
theorem case_step {M : MM} {T : Nat} (I : Inv M T) (hT : T ≤ 20000) (a : Int32) : ∃ (r : Int32) (M1 M2 : MM), Fn 6 mX9_step [.ref 0, .int a] M (some (.int r)) M1 ∧ Fn 5 mX10_step [.ref 72, .int a] M1 (some (.int r)) M2 ∧ Inv M2 (T + 1) := by
  by_cases bad : wth a 0 100 = 0
  · refine ⟨-1, M, M, fn_intro ok_X9_step (Nat.le_of_ble_eq_true rfl) fun G g gr => ?_, fn_intro ok_X10_step (Nat.le_of_ble_eq_true rfl) fun G g gr => ?_, I.mono (by omega)⟩
    · exact b_X9_step_0 g gr (by decide) a M ⟨_, _, fn_X9_isRain _ _, fun c => absurd bad c, fun _ => ⟨rfl, rfl⟩⟩
    · exact b_X10_step_0 g gr (by decide) a M ⟨_, _, fin a 0 100 rfl rfl M, fun _ => ⟨rfl, rfl⟩, fun c => absurd bad c⟩
  · obtain ⟨j, -, hj, rfl⟩ := toNI (lo := 0) (hi := 100) (by omega) (by omega) bad
    obtain ⟨x, C, Q, f1, h1, IQ, h2, h3, hD⟩ := two_step I (fun k _ => rfl) hT hj
    obtain ⟨D', f2, h4, h5⟩ := hD C (fun k hk => (h1 k (by omega)).symm)
    refine ⟨x, C, D', fn_intro ok_X9_step (Nat.le_of_ble_eq_true rfl) fun G g gr => ?_, fn_intro ok_X10_step (Nat.le_of_ble_eq_true rfl) fun G g gr => ?_, IQ.c1 ?_⟩
    · exact b_X9_step_0 g gr (by decide) _ M ⟨_, _, fn_X9_isRain _ _, fun _ => ⟨_, _, f1, rfl, rfl⟩, fun c => absurd c bad⟩
    · exact b_X10_step_0 g gr (by decide) _ _ ⟨_, _, fin _ 0 100 rfl rfl _, fun c => absurd c bad, fun _ => ⟨_, _, f2, rfl, rfl⟩⟩
    · funext k
      by_cases q : k < 72
      · rw [h2 k q, h5 k (Or.inl q)]
      · rw [h4 k (by omega)]
section sheets
variable {M : MM} {k : Nat}
theorem fn_isNothing (hk : k < 4) : Fn 1 mX5_isNothing [.ref 64, .int (nI k)] M (some (.int (if M.1 71 k = -1 then 1 else 0))) M := fn_intro ok_X5_isNothing (Nat.le_of_ble_eq_true rfl) fun G g gr => by
  refine b_X5_isNothing_0 g gr (by decide) _ M ?_
  rw [nI_clamp (show k < 2 ^ 31 by omega)]
  exact ⟨vp_in_nI hk (by omega), ite_10, rfl, rfl⟩
def hasC (z s : Int32) : Int32 := if s < 0 then 0 else if z ≤ s then 0 else 1
theorem fn_hasCell (hk : k < 4) (s : Int32) : Fn 1 mX5_hasCell [.ref 64, .int (nI k), .int s] M (some (.int (hasC (M.1 71 k) s))) M := fn_intro ok_X5_hasCell (Nat.le_of_ble_eq_true rfl) fun G g gr => by
  refine b_X5_hasCell_0 g gr (by decide) _ s M ?_
  rw [nI_clamp (show k < 2 ^ 31 by omega)]
  unfold hasC
  refine ⟨fun c => ?_, fun c => ⟨vp_in_nI hk (by omega), ite_01, ?_⟩⟩
  · rw [if_pos c]; exact ⟨rfl, rfl⟩
  · rw [if_neg c]; exact ⟨rfl, rfl⟩
def fltV (M : MM) (k : Nat) (l : Int32) : Int32 := if M.1 71 k = -1 then 1 else if M.1 70 k = l then 0 else 3
theorem fn_faultAs (hk : k < 4) (l : Int32) : Fn 2 mX5_faultAs [.ref 64, .int (nI k), .int l] M (some (.int (fltV M k l))) M := fn_intro ok_X5_faultAs (Nat.le_of_ble_eq_true rfl) fun G g gr => by
  refine b_X5_faultAs_0 g gr (by decide) _ l M ⟨_, _, fn_isNothing hk, ?_⟩
  rw [nI_clamp (show k < 2 ^ 31 by omega)]
  unfold fltV
  by_cases c : M.1 71 k = -1
  · rw [if_pos c, if_pos c]
    exact ⟨fun e => absurd e (by decide), fun _ => ⟨rfl, rfl⟩⟩
  · rw [if_neg c, if_neg c]
    exact ⟨fun _ => ⟨vp_in_nI hk (by omega), rfl, rfl⟩, fun e => absurd rfl e⟩
/-- a cell's number: wrapped, or with room -/
theorem sh_ix (f : Int32) {i z : Nat} (hi : i < 25) (hz : z ≤ 60) : (hasC (nI z) (f + nI i) = 0 ∧ (f.toInt64 + (nI i).toInt64 < 0 ∨ ¬ f.toInt64 + (nI i).toInt64 < (nI z).toInt64)) ∨ ∃ j, j < z ∧ f + nI i = nI j ∧ f.toInt64 + (nI i).toInt64 = (nI j).toInt64 := by
  have l1 := Int32.toInt_lt f
  have l2 := Int32.le_toInt f
  have e0 : (0 : Int32).toInt = 0 := by decide
  have ez : (0 : Int64).toInt = 0 := by decide
  have ex : (f.toInt64 + (nI i).toInt64).toInt = f.toInt + i := by
    rw [Int64.toInt_add, Int32.toInt_toInt64, Int32.toInt_toInt64, nI_toInt (by omega), Int.bmod_eq_of_le] <;> omega
  have ezz : (nI z).toInt64.toInt = z := by rw [Int32.toInt_toInt64, nI_toInt (by omega)]
  by_cases c : f.toInt + i < 2 ^ 31
  · have es : (f + nI i).toInt = f.toInt + i := by
      rw [Int32.toInt_add, nI_toInt (by omega), Int.bmod_eq_of_le] <;> omega
    by_cases c1 : f.toInt + i < 0
    · refine Or.inl ⟨?_, Or.inl ?_⟩
      · unfold hasC
        rw [if_pos (by rw [Int32.lt_iff_toInt_lt]; omega)]
      · rw [Int64.lt_iff_toInt_lt]; omega
    · by_cases c2 : f.toInt + i < z
      · refine Or.inr ⟨(f.toInt + i).toNat, by omega, ?_, ?_⟩
        · refine Int32.toInt_inj.mp ?_
          rw [es, nI_toInt (by omega)]
          omega
        · refine Int64.toInt_inj.mp ?_
          rw [ex, Int32.toInt_toInt64, nI_toInt (by omega)]
          omega
      · refine Or.inl ⟨?_, Or.inr ?_⟩
        · unfold hasC
          rw [if_neg (by rw [Int32.lt_iff_toInt_lt]; omega), if_pos (by rw [Int32.le_iff_toInt_le, nI_toInt (by omega)]; omega)]
        · rw [Int64.lt_iff_toInt_lt]; omega
  · have es : (f + nI i).toInt = f.toInt + i - 2 ^ 32 := by
      rw [Int32.toInt_add, nI_toInt (by omega)]
      rw [Int.bmod_def]
      split <;> omega
    refine Or.inl ⟨?_, Or.inr ?_⟩
    · unfold hasC
      rw [if_pos (by rw [Int32.lt_iff_toInt_lt]; omega)]
    · rw [Int64.lt_iff_toInt_lt]; omega
theorem hasC_in {z j : Nat} (hz : z ≤ 60) (hj : j < z) : hasC (nI z) (nI j) = 1 := by
  unfold hasC
  rw [if_neg (by rw [Int32.lt_iff_toInt_lt, nI_toInt (by omega), show (0 : Int32).toInt = 0 by decide]; omega), if_neg (by rw [Int32.le_iff_toInt_le, nI_toInt (by omega), nI_toInt (by omega)]; omega)]
theorem cell_at {j : Nat} (hk : k < 4) (hj : j < 60) : (60 * nI k : Int32) + nI j = nI (60 * k + j) := by
  rw [show (60 : Int32) = nI 60 from rfl, pk_mul, nI_add]
theorem fn_bars_no {f : Int32} {i z : Nat} {lo hi : Int32} (hk : k < 4) (hz : M.1 105 k = nI z) (h : f.toInt64 + (nI i).toInt64 < 0 ∨ ¬ f.toInt64 + (nI i).toInt64 < (nI z).toInt64) : Fn 2 mX10_bars [.ref 72, .int (nI k), .int f, .int (nI i), .int lo, .int hi] M (some (.int (-12))) M := fn_intro ok_X10_bars (Nat.le_of_ble_eq_true rfl) fun G g gr => by
  refine b_X10_bars_0 g gr (by decide) _ f _ lo hi M ?_
  intro x ex
  subst ex
  rw [nI_clamp (show k < 2 ^ 31 by omega), hz]
  refine ⟨fun _ => ⟨rfl, rfl⟩, fun c => ⟨vp_in_nI hk (by omega), fun c2 => ?_, fun _ => ⟨rfl, rfl⟩⟩⟩
  rcases h with h | h
  · exact absurd h c
  · exact absurd c2 h
theorem fn_bars_in {f : Int32} {i z j : Nat} {lo hi : Int32} (hk : k < 4) (hz : M.1 105 k = nI z) (hz6 : z ≤ 60) (hj : j < z) (h : f.toInt64 + (nI i).toInt64 = (nI j).toInt64) : Fn 2 mX10_bars [.ref 72, .int (nI k), .int f, .int (nI i), .int lo, .int hi] M (some (.int (if wth (M.1 106 (60 * k + j)) lo hi = 0 then -20 - nI i else 0))) M := fn_intro ok_X10_bars (Nat.le_of_ble_eq_true rfl) fun G g gr => by
  refine b_X10_bars_0 g gr (by decide) _ f _ lo hi M ?_
  intro x ex
  rw [ex, h, nI_clamp (show k < 2 ^ 31 by omega), hz, to32_64, cell_at hk (by omega), nI_clamp (show 60 * k + j < 2 ^ 31 by omega)]
  refine ⟨fun c => ?_, fun _ => ⟨vp_in_nI hk (by omega), fun _ => ⟨vp_in_nI (by omega) (by omega), _, _, fin _ lo hi rfl rfl M, rfl, rfl⟩, fun c => ?_⟩⟩
  · rw [Int64.lt_iff_toInt_lt, Int32.toInt_toInt64, nI_toInt (by omega), show (0 : Int64).toInt = 0 by decide] at c; omega
  · exact absurd (by rw [Int64.lt_iff_toInt_lt, Int32.toInt_toInt64, Int32.toInt_toInt64, nI_toInt (by omega), nI_toInt (by omega)]; omega) c
end sheets

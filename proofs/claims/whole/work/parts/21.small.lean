/-! contracts of small methods -/
theorem fn_X9_within (a b c : Int32) (M : MM) : Fn 1 mX9_within [.int a, .int b, .int c] M (some (.int (wth a b c))) M := fn_intro ok_X9_within (Nat.le_of_ble_eq_true rfl) fun _ g gr => b_X9_within_0 g gr (by decide) a b c M ⟨wth_01 a b c, rfl, rfl⟩
theorem fn_X9_isHeight (a : Int32) (M : MM) : Fn 2 mX9_isHeight [.int a] M (some (.int (wth a (-500) 500))) M := fn_intro ok_X9_isHeight (Nat.le_of_ble_eq_true rfl) fun _ g gr => b_X9_isHeight_0 g gr (by decide) a M ⟨_, _, fn_X9_within _ _ _ _, wth_01 .., rfl, rfl⟩
theorem fn_X9_isRain (a : Int32) (M : MM) : Fn 2 mX9_isRain [.int a] M (some (.int (wth a 0 100))) M := fn_intro ok_X9_isRain (Nat.le_of_ble_eq_true rfl) fun _ g gr => b_X9_isRain_0 g gr (by decide) a M ⟨_, _, fn_X9_within _ _ _ _, wth_01 .., rfl, rfl⟩
theorem fn_X9_isHourOfDay (a : Int32) (M : MM) : Fn 2 mX9_isHourOfDay [.int a] M (some (.int (wth a 0 23))) M := fn_intro ok_X9_isHourOfDay (Nat.le_of_ble_eq_true rfl) fun _ g gr => b_X9_isHourOfDay_0 g gr (by decide) a M ⟨_, _, fn_X9_within _ _ _ _, wth_01 .., rfl, rfl⟩
theorem fn_X9_isPlanned (a : Int32) (M : MM) : Fn 2 mX9_isPlanned [.int a] M (some (.int (wth a 1 6))) M := fn_intro ok_X9_isPlanned (Nat.le_of_ble_eq_true rfl) fun _ g gr => b_X9_isPlanned_0 g gr (by decide) a M ⟨_, _, fn_X9_within _ _ _ _, wth_01 .., rfl, rfl⟩
theorem fn_X9_isSheet (a : Int32) (M : MM) : Fn 2 mX9_isSheet [.int a] M (some (.int (wth a 0 3))) M := fn_intro ok_X9_isSheet (Nat.le_of_ble_eq_true rfl) fun _ g gr => b_X9_isSheet_0 g gr (by decide) a M ⟨_, _, fn_X9_within _ _ _ _, wth_01 .., rfl, rfl⟩
theorem fn_X9_isLane (a : Int32) (M : MM) : Fn 2 mX9_isLane [.int a] M (some (.int (wth a 0 2))) M := fn_intro ok_X9_isLane (Nat.le_of_ble_eq_true rfl) fun _ g gr => b_X9_isLane_0 g gr (by decide) a M ⟨_, _, fn_X9_within _ _ _ _, wth_01 .., rfl, rfl⟩
theorem fn_X0_has (d : Int32) (M : MM) : Fn 1 mX0_has [.ref 2, .int d] M (some (.int (hasV (M.1 2 7) d))) M := fn_intro ok_X0_has (Nat.le_of_ble_eq_true rfl) fun _ g gr => b_X0_has_0 g gr (by decide) d M ⟨hasV_01 .., rfl, rfl⟩
theorem fn_X4_has (d : Int32) (M : MM) : Fn 1 mX4_has [.ref 15, .int d] M (some (.int (hasV (M.1 15 7) d))) M := fn_intro ok_X4_has (Nat.le_of_ble_eq_true rfl) fun _ g gr => b_X4_has_0 g gr (by decide) d M ⟨hasV_01 .., rfl, rfl⟩
theorem fn_X6_has (d : Int32) (M : MM) : Fn 1 mX6_has [.ref 22, .int d] M (some (.int (hasV (M.1 22 3) d))) M := fn_intro ok_X6_has (Nat.le_of_ble_eq_true rfl) fun _ g gr => b_X6_has_0 g gr (by decide) d M ⟨hasV_01 .., rfl, rfl⟩
theorem fn_X7_has (d : Int32) (M : MM) : Fn 1 mX7_has [.ref 10, .int d] M (some (.int (hasV (M.1 10 4) d))) M := fn_intro ok_X7_has (Nat.le_of_ble_eq_true rfl) fun _ g gr => b_X7_has_0 g gr (by decide) d M ⟨hasV_01 .., rfl, rfl⟩
theorem fn_X8_has (d : Int32) (M : MM) : Fn 1 mX8_has [.ref 32, .int d] M (some (.int (hasV (M.1 32 1) d))) M := fn_intro ok_X8_has (Nat.le_of_ble_eq_true rfl) fun _ g gr => b_X8_has_0 g gr (by decide) d M ⟨hasV_01 .., rfl, rfl⟩
theorem fn_mini (a b : Int32) (M : MM) : Fn 1 mJ9_min_7cf53 [.int a, .int b] M (some (.int (if b < a then b else a))) M := fn_intro ok_J9_min_7cf53 (Nat.le_of_ble_eq_true rfl) fun _ g gr => b_J9_min_7cf53_0 g gr (by decide) a b M ⟨rfl, rfl⟩
theorem fn_maxi (a b : Int32) (M : MM) : Fn 1 mJ9_max_7cf53 [.int a, .int b] M (some (.int (if a < b then b else a))) M := fn_intro ok_J9_max_7cf53 (Nat.le_of_ble_eq_true rfl) fun _ g gr => b_J9_max_7cf53_0 g gr (by decide) a b M ⟨rfl, rfl⟩
theorem fn_minl (a b : Int64) (M : MM) : Fn 1 mJ9_min_f86c9 [.long a, .long b] M (some (.long (if a > b then b else a))) M := fn_intro ok_J9_min_f86c9 (Nat.le_of_ble_eq_true rfl) fun _ g gr => b_J9_min_f86c9_0 g gr (by decide) a b M ⟨rfl, rfl⟩
theorem fn_X10_in (a b c : Int64) (M : MM) : Fn 1 mX10_in [.long a, .long b, .long c] M (some (.int (inV a b c))) M := fn_intro ok_X10_in (Nat.le_of_ble_eq_true rfl) fun _ g gr => b_X10_in_0 g gr (by decide) a b c M ⟨inV_01 .., rfl, rfl⟩
theorem fn_X10_isDitch (d : Int32) (M : MM) : Fn 2 mX10_isDitch [.ref 72, .int d] M (some (.int (inV d.toInt64 0 (M.1 72 0 - 1).toInt64))) M := fn_intro ok_X10_isDitch (Nat.le_of_ble_eq_true rfl) fun _ g gr => b_X10_isDitch_0 g gr (by decide) d M ⟨_, _, fn_X10_in _ _ _ _, inV_01 .., rfl, rfl⟩
theorem fn_X10_isSheet (a b : Int32) (M : MM) : Fn 2 mX10_isSheet [.int a, .int b] M (some (.int (if wth a 0 3 = 0 then 0 else wth b 0 2))) M := fn_intro ok_X10_isSheet (Nat.le_of_ble_eq_true rfl) fun _ g gr => by
  refine b_X10_isSheet_0 g gr (by decide) a b M ⟨_, _, fn_X10_in _ _ _ _, ?_⟩
  rw [show inV a.toInt64 0 3 = wth a 0 3 from inV_wth a 0 3]
  refine ⟨fun h => ⟨by rw [if_pos h], rfl⟩, fun h => ⟨_, _, fn_X10_in _ _ _ _, ?_⟩⟩
  rw [show inV b.toInt64 0 2 = wth b 0 2 from inV_wth b 0 2, if_neg h]
  rcases wth_01 b 0 2 with e | e <;> rw [e] <;> simp
/-- the hour of the day -/
theorem fn_floorMod {h : Nat} (hh : h < 2 ^ 31) (M : MM) : Fn 1 mJ9_floorMod_7cf53 [.int (nI h), .int 24] M (some (.int (nI (h % 24)))) M := fn_intro ok_J9_floorMod_7cf53 (Nat.le_of_ble_eq_true rfl) fun _ g gr => by
  refine b_J9_floorMod_7cf53_0 g gr (by decide) (nI h) 24 M ⟨by decide, fun x hx => ?_⟩
  have e : x = nI (h % 24) := by
    rw [hx]
    exact pk_rem (a := h) (d := 24) hh (by omega) (by omega)
  refine ⟨fun _ => ⟨by rw [e], rfl⟩, fun c => ?_⟩
  exfalso
  apply c
  have hn : nI h = Int32.ofNat h := rfl
  rw [Int32.le_iff_toInt_le]
  have h0 : (0 : Int32).toInt = 0 := by decide
  rw [h0]
  have hb : (nI h ^^^ 24).toBitVec = BitVec.ofNat 32 (h ^^^ 24) := by
    have e1 : (nI h).toBitVec = BitVec.ofNat 32 h := rfl
    rw [Int32.toBitVec_xor, e1, show (24 : Int32).toBitVec = BitVec.ofNat 32 24 from rfl]
    apply BitVec.eq_of_toNat_eq
    rw [BitVec.toNat_xor, BitVec.toNat_ofNat, BitVec.toNat_ofNat, BitVec.toNat_ofNat, Nat.mod_eq_of_lt (show h < 2 ^ 32 by omega), Nat.mod_eq_of_lt (show 24 < 2 ^ 32 by omega), Nat.mod_eq_of_lt (Nat.xor_lt_two_pow (show h < 2 ^ 32 by omega) (show 24 < 2 ^ 32 by omega))]
  have hlt : h ^^^ 24 < 2 ^ 31 := Nat.xor_lt_two_pow hh (by omega)
  have hz : nI h ^^^ 24 = nI (h ^^^ 24) := by
    apply Int32.toBitVec_inj.mp
    rw [hb]
    rfl
  rw [hz, nI_toInt hlt]
  omega
theorem fn_hourOfDay {h : Nat} (hh : h < 2 ^ 31) (M : MM) : Fn 2 mX9_hourOfDay [.int (nI h)] M (some (.int (nI (h % 24)))) M := fn_intro ok_X9_hourOfDay (Nat.le_of_ble_eq_true rfl) fun _ g gr => b_X9_hourOfDay_0 g gr (by decide) (nI h) M ⟨_, _, fn_floorMod hh M, rfl, rfl⟩

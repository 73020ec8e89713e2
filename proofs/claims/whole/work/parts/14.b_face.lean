set_option maxHeartbeats 4000000 in
set_option maxRecDepth 100000 in
theorem b_X9_ditch_0 {G : GC} {n : Nat} {r : Option Value} {M' : MM} (g : Good G mX9_ditch n) (gr : GoodR G r M') (hn : 3 ≤ n) (a1 : Int32) (a2 : Int32) (a3 : Int32)   (M : MM) (h : (∃ (r3 : Int32) (M1 : MM), Fn 1 mX9_within [.int a1, .int 1, .int 50] M (some (.int r3)) M1 ∧ ((r3 = (0 : Int32) → (r = some (.int (-1)) ∧ M' = M1)) ∧ (¬ (r3 = (0 : Int32)) → (∃ (r7 : Int32) (M5 : MM), Fn 2 mX9_isHeight [.int a2] M1 (some (.int r7)) M5 ∧ ((r7 = (0 : Int32) → (r = some (.int (-1)) ∧ M' = M5)) ∧ (¬ (r7 = (0 : Int32)) → (∃ (r11 : Int32) (M9 : MM), Fn 1 mX9_within [.int a3, .int 0, .int 100000] M5 (some (.int r11)) M9 ∧ ((¬ r11 = (0 : Int32) → (∃ (r15 : Int32) (M13 : MM), Fn 1 mX0_add [.ref 2, .int a1, .int a2, .int a3] M9 (some (.int r15)) M13 ∧ (r = some (.int r15) ∧ M' = M13))) ∧ (r11 = (0 : Int32) → (r = some (.int (-1)) ∧ M' = M9))))))))))) : Ev G 0 [(0, .ref 0), (1, .int a1), (2, .int a2), (3, .int a3)] [] M := by
  refine e_iload_n (pc := 0) g 1 dX9_ditch_0 rfl ?_
  refine e_iconst (pc := 1) g 1 dX9_ditch_1 kc_1 ?_
  refine e_bipush (pc := 2) g 50 dX9_ditch_2 kb_50 ?_
  obtain ⟨r3, M1, f2, h⟩ := h
  refine e_callS (As := [.int a1, .int 1, .int 50]) (S := []) (pc := 4) g ok_X9_within ml_X9_39 f2 (by omega) rfl (Nat.le_of_ble_eq_true rfl) dX9_ditch_4 ?_
  refine e_to (S' := [.int r3]) rfl rfl rfl ?_
  refine e_if_eq (pc := 7) g 27 dX9_ditch_7 (by decide) (fun c4 => ?_) (fun c4 => ?_)
  · have h := h.1 c4
    refine e_iconst (pc := 27) g (-1) dX9_ditch_27 kc_m1 ?_
    exact e_iret (pc := 28) g gr rfl dX9_ditch_28 h
  · have h := h.2 c4
    refine e_iload_n (pc := 10) g 2 dX9_ditch_10 rfl ?_
    obtain ⟨r7, M5, f6, h⟩ := h
    refine e_callS (As := [.int a2]) (S := []) (pc := 11) g ok_X9_isHeight ml_X9_43 f6 (by omega) rfl (Nat.le_of_ble_eq_true rfl) dX9_ditch_11 ?_
    refine e_to (S' := [.int r7]) rfl rfl rfl ?_
    refine e_if_eq (pc := 14) g 27 dX9_ditch_14 (by decide) (fun c8 => ?_) (fun c8 => ?_)
    · have h := h.1 c8
      refine e_iconst (pc := 27) g (-1) dX9_ditch_27 kc_m1 ?_
      exact e_iret (pc := 28) g gr rfl dX9_ditch_28 h
    · have h := h.2 c8
      refine e_iload_n (pc := 17) g 3 dX9_ditch_17 rfl ?_
      refine e_iconst (pc := 18) g 0 dX9_ditch_18 kc_0 ?_
      refine e_ldc (pc := 19) g 100000 kc_X9_47 dX9_ditch_19 ?_
      obtain ⟨r11, M9, f10, h⟩ := h
      refine e_callS (As := [.int a3, .int 0, .int 100000]) (S := []) (pc := 21) g ok_X9_within ml_X9_39 f10 (by omega) rfl (Nat.le_of_ble_eq_true rfl) dX9_ditch_21 ?_
      refine e_to (S' := [.int r11]) rfl rfl rfl ?_
      refine e_if_ne (pc := 24) g 29 dX9_ditch_24 (by decide) (fun c12 => ?_) (fun c12 => ?_)
      · have h := h.1 c12
        refine e_aload_n (pc := 29) g 0 dX9_ditch_29 rfl ?_
        refine e_getR (pc := 30) g 1 fl_X9_12 sh_0 rfl dX9_ditch_30 ?_
        refine e_getR (pc := 33) g 2 fl_X9_48 sh_1 rfl dX9_ditch_33 ?_
        refine e_iload_n (pc := 36) g 1 dX9_ditch_36 rfl ?_
        refine e_iload_n (pc := 37) g 2 dX9_ditch_37 rfl ?_
        refine e_iload_n (pc := 38) g 3 dX9_ditch_38 rfl ?_
        obtain ⟨r15, M13, f14, h⟩ := h
        refine e_callV (As := [.int a1, .int a2, .int a3]) (S := []) (pc := 39) g ok_X0_add ml_X9_52 sh_2 ⟨_, rfl, rfl⟩ f14 (by omega) rfl (Nat.le_of_ble_eq_true rfl) dX9_ditch_39 ?_
        refine e_to (S' := [.int r15]) rfl rfl rfl ?_
        exact e_iret (pc := 42) g gr rfl dX9_ditch_42 h
      · have h := h.2 c12
        refine e_iconst (pc := 27) g (-1) dX9_ditch_27 kc_m1 ?_
        exact e_iret (pc := 28) g gr rfl dX9_ditch_28 h
set_option maxHeartbeats 4000000 in
set_option maxRecDepth 100000 in
theorem b_X9_band_0 {G : GC} {n : Nat} {r : Option Value} {M' : MM} (g : Good G mX9_band n) (gr : GoodR G r M') (hn : 2 ≤ n) (a1 : Int32) (a2 : Int32) (a3 : Int32)   (M : MM) (h : (∃ (r3 : Int32) (M1 : MM), Fn 1 mX0_has [.ref 2, .int a1] M (some (.int r3)) M1 ∧ ((r3 = (0 : Int32) → (r = some (.int (-1)) ∧ M' = M1)) ∧ (¬ (r3 = (0 : Int32)) → (∃ (r7 : Int32) (M5 : MM), Fn 1 mX9_within [.int a2, .int (-1000), .int 1000] M1 (some (.int r7)) M5 ∧ ((r7 = (0 : Int32) → (r = some (.int (-1)) ∧ M' = M5)) ∧ (¬ (r7 = (0 : Int32)) → (∃ (r11 : Int32) (M9 : MM), Fn 1 mX9_within [.int a3, .int a2, .int 1000] M5 (some (.int r11)) M9 ∧ ((¬ r11 = (0 : Int32) → (vp_in a1 6) ∧ (∀ M14 : MM, M14 = ui M9 5 a1.toNatClampNeg a2 → (∀ M15 : MM, M15 = ui M14 6 a1.toNatClampNeg a3 → (r = some (.int 1) ∧ M' = M15)))) ∧ (r11 = (0 : Int32) → (r = some (.int (-1)) ∧ M' = M9))))))))))) : Ev G 0 [(0, .ref 0), (1, .int a1), (2, .int a2), (3, .int a3)] [] M := by
  refine e_aload_n (pc := 0) g 0 dX9_band_0 rfl ?_
  refine e_getR (pc := 1) g 1 fl_X9_12 sh_0 rfl dX9_band_1 ?_
  refine e_getR (pc := 4) g 2 fl_X9_48 sh_1 rfl dX9_band_4 ?_
  refine e_iload_n (pc := 7) g 1 dX9_band_7 rfl ?_
  obtain ⟨r3, M1, f2, h⟩ := h
  refine e_callV (As := [.int a1]) (S := []) (pc := 8) g ok_X0_has ml_X9_58 sh_2 ⟨_, rfl, rfl⟩ f2 (by omega) rfl (Nat.le_of_ble_eq_true rfl) dX9_band_8 ?_
  refine e_to (S' := [.int r3]) rfl rfl rfl ?_
  refine e_if_eq (pc := 11) g 38 dX9_band_11 (by decide) (fun c4 => ?_) (fun c4 => ?_)
  · have h := h.1 c4
    refine e_iconst (pc := 38) g (-1) dX9_band_38 kc_m1 ?_
    exact e_iret (pc := 39) g gr rfl dX9_band_39 h
  · have h := h.2 c4
    refine e_iload_n (pc := 14) g 2 dX9_band_14 rfl ?_
    refine e_sipush (pc := 15) g (-1000) dX9_band_15 ks_m1000 ?_
    refine e_sipush (pc := 18) g 1000 dX9_band_18 ks_1000 ?_
    obtain ⟨r7, M5, f6, h⟩ := h
    refine e_callS (As := [.int a2, .int (-1000), .int 1000]) (S := []) (pc := 21) g ok_X9_within ml_X9_39 f6 (by omega) rfl (Nat.le_of_ble_eq_true rfl) dX9_band_21 ?_
    refine e_to (S' := [.int r7]) rfl rfl rfl ?_
    refine e_if_eq (pc := 24) g 38 dX9_band_24 (by decide) (fun c8 => ?_) (fun c8 => ?_)
    · have h := h.1 c8
      refine e_iconst (pc := 38) g (-1) dX9_band_38 kc_m1 ?_
      exact e_iret (pc := 39) g gr rfl dX9_band_39 h
    · have h := h.2 c8
      refine e_iload_n (pc := 27) g 3 dX9_band_27 rfl ?_
      refine e_iload_n (pc := 28) g 2 dX9_band_28 rfl ?_
      refine e_sipush (pc := 29) g 1000 dX9_band_29 ks_1000 ?_
      obtain ⟨r11, M9, f10, h⟩ := h
      refine e_callS (As := [.int a3, .int a2, .int 1000]) (S := []) (pc := 32) g ok_X9_within ml_X9_39 f10 (by omega) rfl (Nat.le_of_ble_eq_true rfl) dX9_band_32 ?_
      refine e_to (S' := [.int r11]) rfl rfl rfl ?_
      refine e_if_ne (pc := 35) g 40 dX9_band_35 (by decide) (fun c12 => ?_) (fun c12 => ?_)
      · have h := h.1 c12
        refine e_aload_n (pc := 40) g 0 dX9_band_40 rfl ?_
        refine e_getR (pc := 41) g 1 fl_X9_12 sh_0 rfl dX9_band_41 ?_
        refine e_getR (pc := 44) g 2 fl_X9_48 sh_1 rfl dX9_band_44 ?_
        refine e_getR (pc := 47) g 5 fl_X9_61 sh_2 rfl dX9_band_47 ?_
        refine e_iload_n (pc := 50) g 1 dX9_band_50 rfl ?_
        refine e_iload_n (pc := 51) g 2 dX9_band_51 rfl ?_
        obtain ⟨o13, h⟩ := h
        refine e_iast (pc := 52) g sh_5 o13 dX9_band_52 ?_
        obtain ⟨M14, qM14⟩ : ∃ y : MM, y = ui M9 5 a1.toNatClampNeg a2 := ⟨_, rfl⟩
        have h := h M14 qM14
        refine e_to (M' := M14) rfl rfl (by rw [qM14]) ?_
        refine e_aload_n (pc := 53) g 0 dX9_band_53 rfl ?_
        refine e_getR (pc := 54) g 1 fl_X9_12 sh_0 rfl dX9_band_54 ?_
        refine e_getR (pc := 57) g 2 fl_X9_48 sh_1 rfl dX9_band_57 ?_
        refine e_getR (pc := 60) g 6 fl_X9_65 sh_2 rfl dX9_band_60 ?_
        refine e_iload_n (pc := 63) g 1 dX9_band_63 rfl ?_
        refine e_iload_n (pc := 64) g 3 dX9_band_64 rfl ?_
        refine e_iast (pc := 65) g sh_6 o13 dX9_band_65 ?_
        obtain ⟨M15, qM15⟩ : ∃ y : MM, y = ui M14 6 a1.toNatClampNeg a3 := ⟨_, rfl⟩
        have h := h M15 qM15
        refine e_to (M' := M15) rfl rfl (by rw [qM15]) ?_
        refine e_iconst (pc := 66) g 1 dX9_band_66 kc_1 ?_
        exact e_iret (pc := 67) g gr rfl dX9_band_67 h
      · have h := h.2 c12
        refine e_iconst (pc := 38) g (-1) dX9_band_38 kc_m1 ?_
        exact e_iret (pc := 39) g gr rfl dX9_band_39 h
set_option maxHeartbeats 4000000 in
set_option maxRecDepth 100000 in
theorem b_X9_told_0 {G : GC} {n : Nat} {r : Option Value} {M' : MM} (g : Good G mX9_told n) (gr : GoodR G r M') (hn : 3 ≤ n) (a1 : Int32) (a2 : Int32)   (M : MM) (h : (∃ (r3 : Int32) (M1 : MM), Fn 1 mX0_has [.ref 2, .int a1] M (some (.int r3)) M1 ∧ ((¬ r3 = (0 : Int32) → ((a2 = (0 : Int32) → (vp_in a1 6) ∧ (r = some (.int (M1.1 7 a1.toNatClampNeg)) ∧ M' = M1)) ∧ (a2 = (1 : Int32) → (∃ (r8 : Int32) (M6 : MM), Fn 1 mX0_level [.ref 2, .int a1, .ref 7] M1 (some (.int r8)) M6 ∧ (r = some (.int r8) ∧ M' = M6))) ∧ (a2 = (2 : Int32) → (∃ (r11 : Int32) (M9 : MM), Fn 2 mX0_breach [.ref 2, .int a1, .ref 7] M1 (some (.int r11)) M9 ∧ (r = some (.int r11) ∧ M' = M9))) ∧ (a2 = (3 : Int32) → (vp_in a1 6) ∧ (r = some (.int (M1.1 8 a1.toNatClampNeg)) ∧ M' = M1)) ∧ (a2 = (4 : Int32) → (vp_in a1 6) ∧ (r = some (.int (M1.1 9 a1.toNatClampNeg)) ∧ M' = M1)) ∧ (¬ a2 = (0 : Int32) → ¬ a2 = (1 : Int32) → ¬ a2 = (2 : Int32) → ¬ a2 = (3 : Int32) → ¬ a2 = (4 : Int32) → (r = some (.int (-1000000)) ∧ M' = M1)))) ∧ (r3 = (0 : Int32) → (r = some (.int (-1000000)) ∧ M' = M1))))) : Ev G 0 [(0, .ref 0), (1, .int a1), (2, .int a2)] [] M := by
  refine e_aload_n (pc := 0) g 0 dX9_told_0 rfl ?_
  refine e_getR (pc := 1) g 1 fl_X9_12 sh_0 rfl dX9_told_1 ?_
  refine e_getR (pc := 4) g 2 fl_X9_48 sh_1 rfl dX9_told_4 ?_
  refine e_astore_n (pc := 7) g [(0, .ref 0), (1, .int a1), (2, .int a2), (3, .ref 2)] dX9_told_7 (by decide) rfl ?_
  refine e_aload_n (pc := 8) g 3 dX9_told_8 rfl ?_
  refine e_iload_n (pc := 9) g 1 dX9_told_9 rfl ?_
  obtain ⟨r3, M1, f2, h⟩ := h
  refine e_callV (As := [.int a1]) (S := []) (pc := 10) g ok_X0_has ml_X9_58 sh_2 ⟨_, rfl, rfl⟩ f2 (by omega) rfl (Nat.le_of_ble_eq_true rfl) dX9_told_10 ?_
  refine e_to (S' := [.int r3]) rfl rfl rfl ?_
  refine e_if_ne (pc := 13) g 19 dX9_told_13 (by decide) (fun c4 => ?_) (fun c4 => ?_)
  · have h := h.1 c4
    refine e_iload_n (pc := 19) g 2 dX9_told_19 rfl ?_
    obtain ⟨h0, h1, h2, h3, h4, hd⟩ := h
    by_cases cs0 : a2 = (0 : Int32)
    · have h := h0 cs0
      refine e_to (S' := [.int 0]) rfl (by rw [cs0]) rfl ?_
      refine e_tabIn (off := 36) (pc := 20) g 56 dX9_told_20 (by decide) (by decide) (by decide +kernel) (by decide) ?_
      refine e_aload_n (pc := 56) g 3 dX9_told_56 rfl ?_
      refine e_getR (pc := 57) g 7 fl_X9_69 sh_2 rfl dX9_told_57 ?_
      refine e_iload_n (pc := 60) g 1 dX9_told_60 rfl ?_
      obtain ⟨o5, h⟩ := h
      refine e_iald (pc := 61) g sh_7 o5 dX9_told_61 ?_
      exact e_iret (pc := 62) g gr rfl dX9_told_62 h
    by_cases cs1 : a2 = (1 : Int32)
    · have h := h1 cs1
      refine e_to (S' := [.int 1]) rfl (by rw [cs1]) rfl ?_
      refine e_tabIn (off := 43) (pc := 20) g 63 dX9_told_20 (by decide) (by decide) (by decide +kernel) (by decide) ?_
      refine e_aload_n (pc := 63) g 3 dX9_told_63 rfl ?_
      refine e_iload_n (pc := 64) g 1 dX9_told_64 rfl ?_
      refine e_aload_n (pc := 65) g 3 dX9_told_65 rfl ?_
      refine e_getR (pc := 66) g 7 fl_X9_69 sh_2 rfl dX9_told_66 ?_
      obtain ⟨r8, M6, f7, h⟩ := h
      refine e_callV (As := [.int a1, .ref 7]) (S := []) (pc := 69) g ok_X0_level ml_X9_72 sh_2 ⟨_, rfl, rfl⟩ f7 (by omega) rfl (Nat.le_of_ble_eq_true rfl) dX9_told_69 ?_
      refine e_to (S' := [.int r8]) rfl rfl rfl ?_
      exact e_iret (pc := 72) g gr rfl dX9_told_72 h
    by_cases cs2 : a2 = (2 : Int32)
    · have h := h2 cs2
      refine e_to (S' := [.int 2]) rfl (by rw [cs2]) rfl ?_
      refine e_tabIn (off := 53) (pc := 20) g 73 dX9_told_20 (by decide) (by decide) (by decide +kernel) (by decide) ?_
      refine e_aload_n (pc := 73) g 3 dX9_told_73 rfl ?_
      refine e_iload_n (pc := 74) g 1 dX9_told_74 rfl ?_
      refine e_aload_n (pc := 75) g 3 dX9_told_75 rfl ?_
      refine e_getR (pc := 76) g 7 fl_X9_69 sh_2 rfl dX9_told_76 ?_
      obtain ⟨r11, M9, f10, h⟩ := h
      refine e_callV (As := [.int a1, .ref 7]) (S := []) (pc := 79) g ok_X0_breach ml_X9_76 sh_2 ⟨_, rfl, rfl⟩ f10 (by omega) rfl (Nat.le_of_ble_eq_true rfl) dX9_told_79 ?_
      refine e_to (S' := [.int r11]) rfl rfl rfl ?_
      exact e_iret (pc := 82) g gr rfl dX9_told_82 h
    by_cases cs3 : a2 = (3 : Int32)
    · have h := h3 cs3
      refine e_to (S' := [.int 3]) rfl (by rw [cs3]) rfl ?_
      refine e_tabIn (off := 63) (pc := 20) g 83 dX9_told_20 (by decide) (by decide) (by decide +kernel) (by decide) ?_
      refine e_aload_n (pc := 83) g 3 dX9_told_83 rfl ?_
      refine e_getR (pc := 84) g 8 fl_X9_79 sh_2 rfl dX9_told_84 ?_
      refine e_iload_n (pc := 87) g 1 dX9_told_87 rfl ?_
      obtain ⟨o12, h⟩ := h
      refine e_iald (pc := 88) g sh_8 o12 dX9_told_88 ?_
      exact e_iret (pc := 89) g gr rfl dX9_told_89 h
    by_cases cs4 : a2 = (4 : Int32)
    · have h := h4 cs4
      refine e_to (S' := [.int 4]) rfl (by rw [cs4]) rfl ?_
      refine e_tabIn (off := 70) (pc := 20) g 90 dX9_told_20 (by decide) (by decide) (by decide +kernel) (by decide) ?_
      refine e_aload_n (pc := 90) g 3 dX9_told_90 rfl ?_
      refine e_getR (pc := 91) g 9 fl_X9_82 sh_2 rfl dX9_told_91 ?_
      refine e_iload_n (pc := 94) g 1 dX9_told_94 rfl ?_
      obtain ⟨o13, h⟩ := h
      refine e_iald (pc := 95) g sh_9 o13 dX9_told_95 ?_
      exact e_iret (pc := 96) g gr rfl dX9_told_96 h
    have h := hd cs0 cs1 cs2 cs3 cs4
    refine e_tabOut (pc := 20) g 97 dX9_told_20 (tab_5 cs0 cs1 cs2 cs3 cs4) (by decide) ?_
    refine e_ldc (pc := 97) g (-1000000) kc_X9_68 dX9_told_97 ?_
    exact e_iret (pc := 99) g gr rfl dX9_told_99 h
  · have h := h.2 c4
    refine e_ldc (pc := 16) g (-1000000) kc_X9_68 dX9_told_16 ?_
    exact e_iret (pc := 18) g gr rfl dX9_told_18 h
set_option maxHeartbeats 4000000 in
set_option maxRecDepth 100000 in
theorem b_X9_weir_0 {G : GC} {n : Nat} {r : Option Value} {M' : MM} (g : Good G mX9_weir n) (gr : GoodR G r M') (hn : 3 ≤ n) (a1 : Int32) (a2 : Int32) (a3 : Int32) (a4 : Int32)   (M : MM) (h : (∃ (r3 : Int32) (M1 : MM), Fn 1 mX0_has [.ref 2, .int a1] M (some (.int r3)) M1 ∧ ((r3 = (0 : Int32) → (r = some (.int (-1)) ∧ M' = M1)) ∧ (¬ (r3 = (0 : Int32)) → (∃ (r7 : Int32) (M5 : MM), Fn 1 mX0_has [.ref 2, .int a2] M1 (some (.int r7)) M5 ∧ ((r7 = (0 : Int32) → (r = some (.int (-1)) ∧ M' = M5)) ∧ (¬ (r7 = (0 : Int32)) → ((¬ a1 = (a2 : Int32) → (∃ (r12 : Int32) (M10 : MM), Fn 2 mX9_isHeight [.int a3] M5 (some (.int r12)) M10 ∧ ((r12 = (0 : Int32) → (r = some (.int (-1)) ∧ M' = M10)) ∧ (¬ (r12 = (0 : Int32)) → (∃ (r16 : Int32) (M14 : MM), Fn 1 mX9_within [.int a4, .int 1, .int 50] M10 (some (.int r16)) M14 ∧ ((¬ r16 = (0 : Int32) → (∃ (r20 : Int32) (M18 : MM), Fn 1 mX7_add [.ref 10, .int a1, .int a2, .int a3, .int a4] M14 (some (.int r20)) M18 ∧ (r = some (.int r20) ∧ M' = M18))) ∧ (r16 = (0 : Int32) → (r = some (.int (-1)) ∧ M' = M14)))))))) ∧ (a1 = (a2 : Int32) → (r = some (.int (-1)) ∧ M' = M5)))))))))) : Ev G 0 [(0, .ref 0), (1, .int a1), (2, .int a2), (3, .int a3), (4, .int a4)] [] M := by
  refine e_aload_n (pc := 0) g 0 dX9_weir_0 rfl ?_
  refine e_getR (pc := 1) g 1 fl_X9_12 sh_0 rfl dX9_weir_1 ?_
  refine e_getR (pc := 4) g 2 fl_X9_48 sh_1 rfl dX9_weir_4 ?_
  refine e_iload_n (pc := 7) g 1 dX9_weir_7 rfl ?_
  obtain ⟨r3, M1, f2, h⟩ := h
  refine e_callV (As := [.int a1]) (S := []) (pc := 8) g ok_X0_has ml_X9_58 sh_2 ⟨_, rfl, rfl⟩ f2 (by omega) rfl (Nat.le_of_ble_eq_true rfl) dX9_weir_8 ?_
  refine e_to (S' := [.int r3]) rfl rfl rfl ?_
  refine e_if_eq (pc := 11) g 33 dX9_weir_11 (by decide) (fun c4 => ?_) (fun c4 => ?_)
  · have h := h.1 c4
    refine e_iconst (pc := 33) g (-1) dX9_weir_33 kc_m1 ?_
    exact e_iret (pc := 34) g gr rfl dX9_weir_34 h
  · have h := h.2 c4
    refine e_aload_n (pc := 14) g 0 dX9_weir_14 rfl ?_
    refine e_getR (pc := 15) g 1 fl_X9_12 sh_0 rfl dX9_weir_15 ?_
    refine e_getR (pc := 18) g 2 fl_X9_48 sh_1 rfl dX9_weir_18 ?_
    refine e_iload_n (pc := 21) g 2 dX9_weir_21 rfl ?_
    obtain ⟨r7, M5, f6, h⟩ := h
    refine e_callV (As := [.int a2]) (S := []) (pc := 22) g ok_X0_has ml_X9_58 sh_2 ⟨_, rfl, rfl⟩ f6 (by omega) rfl (Nat.le_of_ble_eq_true rfl) dX9_weir_22 ?_
    refine e_to (S' := [.int r7]) rfl rfl rfl ?_
    refine e_if_eq (pc := 25) g 33 dX9_weir_25 (by decide) (fun c8 => ?_) (fun c8 => ?_)
    · have h := h.1 c8
      refine e_iconst (pc := 33) g (-1) dX9_weir_33 kc_m1 ?_
      exact e_iret (pc := 34) g gr rfl dX9_weir_34 h
    · have h := h.2 c8
      refine e_iload_n (pc := 28) g 1 dX9_weir_28 rfl ?_
      refine e_iload_n (pc := 29) g 2 dX9_weir_29 rfl ?_
      refine e_icmp_ne (pc := 30) g 35 dX9_weir_30 (by decide) (fun c9 => ?_) (fun c9 => ?_)
      · have h := h.1 c9
        refine e_iload_n (pc := 35) g 3 dX9_weir_35 rfl ?_
        obtain ⟨r12, M10, f11, h⟩ := h
        refine e_callS (As := [.int a3]) (S := []) (pc := 36) g ok_X9_isHeight ml_X9_43 f11 (by omega) rfl (Nat.le_of_ble_eq_true rfl) dX9_weir_36 ?_
        refine e_to (S' := [.int r12]) rfl rfl rfl ?_
        refine e_if_eq (pc := 39) g 53 dX9_weir_39 (by decide) (fun c13 => ?_) (fun c13 => ?_)
        · have h := h.1 c13
          refine e_iconst (pc := 53) g (-1) dX9_weir_53 kc_m1 ?_
          exact e_iret (pc := 54) g gr rfl dX9_weir_54 h
        · have h := h.2 c13
          refine e_iload (pc := 42) g 4 dX9_weir_42 rfl ?_
          refine e_iconst (pc := 44) g 1 dX9_weir_44 kc_1 ?_
          refine e_bipush (pc := 45) g 50 dX9_weir_45 kb_50 ?_
          obtain ⟨r16, M14, f15, h⟩ := h
          refine e_callS (As := [.int a4, .int 1, .int 50]) (S := []) (pc := 47) g ok_X9_within ml_X9_39 f15 (by omega) rfl (Nat.le_of_ble_eq_true rfl) dX9_weir_47 ?_
          refine e_to (S' := [.int r16]) rfl rfl rfl ?_
          refine e_if_ne (pc := 50) g 55 dX9_weir_50 (by decide) (fun c17 => ?_) (fun c17 => ?_)
          · have h := h.1 c17
            refine e_aload_n (pc := 55) g 0 dX9_weir_55 rfl ?_
            refine e_getR (pc := 56) g 1 fl_X9_12 sh_0 rfl dX9_weir_56 ?_
            refine e_getR (pc := 59) g 10 fl_X9_85 sh_1 rfl dX9_weir_59 ?_
            refine e_iload_n (pc := 62) g 1 dX9_weir_62 rfl ?_
            refine e_iload_n (pc := 63) g 2 dX9_weir_63 rfl ?_
            refine e_iload_n (pc := 64) g 3 dX9_weir_64 rfl ?_
            refine e_iload (pc := 65) g 4 dX9_weir_65 rfl ?_
            obtain ⟨r20, M18, f19, h⟩ := h
            refine e_callV (As := [.int a1, .int a2, .int a3, .int a4]) (S := []) (pc := 67) g ok_X7_add ml_X9_89 sh_10 ⟨_, rfl, rfl⟩ f19 (by omega) rfl (Nat.le_of_ble_eq_true rfl) dX9_weir_67 ?_
            refine e_to (S' := [.int r20]) rfl rfl rfl ?_
            exact e_iret (pc := 70) g gr rfl dX9_weir_70 h
          · have h := h.2 c17
            refine e_iconst (pc := 53) g (-1) dX9_weir_53 kc_m1 ?_
            exact e_iret (pc := 54) g gr rfl dX9_weir_54 h
      · have h := h.2 c9
        refine e_iconst (pc := 33) g (-1) dX9_weir_33 kc_m1 ?_
        exact e_iret (pc := 34) g gr rfl dX9_weir_34 h
set_option maxHeartbeats 4000000 in
set_option maxRecDepth 100000 in
theorem b_X9_pump_0 {G : GC} {n : Nat} {r : Option Value} {M' : MM} (g : Good G mX9_pump n) (gr : GoodR G r M') (hn : 2 ≤ n) (a1 : Int32) (a2 : Int32) (a3 : Int32) (a4 : Int32) (a5 : Int32)   (M : MM) (h : (∃ (r3 : Int32) (M1 : MM), Fn 1 mX0_has [.ref 2, .int a1] M (some (.int r3)) M1 ∧ ((r3 = (0 : Int32) → (r = some (.int (-1)) ∧ M' = M1)) ∧ (¬ (r3 = (0 : Int32)) → ((a2 = ((-4) : Int32) → ((¬ a1 = (a2 : Int32) → (∃ (r9 : Int32) (M7 : MM), Fn 1 mX9_within [.int a3, .int 1, .int 1000] M1 (some (.int r9)) M7 ∧ ((r9 = (0 : Int32) → (r = some (.int (-1)) ∧ M' = M7)) ∧ (¬ (r9 = (0 : Int32)) → (∃ (r13 : Int32) (M11 : MM), Fn 1 mX9_within [.int a4, .int 1, .int 6] M7 (some (.int r13)) M11 ∧ ((r13 = (0 : Int32) → (r = some (.int (-1)) ∧ M' = M11)) ∧ (¬ (r13 = (0 : Int32)) → (∃ (r17 : Int32) (M15 : MM), Fn 1 mX9_within [.int a5, .int 0, .int 16777215] M11 (some (.int r17)) M15 ∧ ((¬ r17 = (0 : Int32) → (∃ (r21 : Int32) (M19 : MM), Fn 1 mX4_add [.ref 15, .int a1, .int a2, .int a3, .int a4, .int a5] M15 (some (.int r21)) M19 ∧ (r = some (.int r21) ∧ M' = M19))) ∧ (r17 = (0 : Int32) → (r = some (.int (-1)) ∧ M' = M15))))))))))) ∧ (a1 = (a2 : Int32) → (r = some (.int (-1)) ∧ M' = M1)))) ∧ (¬ (a2 = ((-4) : Int32)) → (∃ (r24 : Int32) (M22 : MM), Fn 1 mX0_has [.ref 2, .int a2] M1 (some (.int r24)) M22 ∧ ((r24 = (0 : Int32) → (r = some (.int (-1)) ∧ M' = M22)) ∧ (¬ (r24 = (0 : Int32)) → ((¬ a1 = (a2 : Int32) → (∃ (r29 : Int32) (M27 : MM), Fn 1 mX9_within [.int a3, .int 1, .int 1000] M22 (some (.int r29)) M27 ∧ ((r29 = (0 : Int32) → (r = some (.int (-1)) ∧ M' = M27)) ∧ (¬ (r29 = (0 : Int32)) → (∃ (r33 : Int32) (M31 : MM), Fn 1 mX9_within [.int a4, .int 1, .int 6] M27 (some (.int r33)) M31 ∧ ((r33 = (0 : Int32) → (r = some (.int (-1)) ∧ M' = M31)) ∧ (¬ (r33 = (0 : Int32)) → (∃ (r37 : Int32) (M35 : MM), Fn 1 mX9_within [.int a5, .int 0, .int 16777215] M31 (some (.int r37)) M35 ∧ ((¬ r37 = (0 : Int32) → (∃ (r41 : Int32) (M39 : MM), Fn 1 mX4_add [.ref 15, .int a1, .int a2, .int a3, .int a4, .int a5] M35 (some (.int r41)) M39 ∧ (r = some (.int r41) ∧ M' = M39))) ∧ (r37 = (0 : Int32) → (r = some (.int (-1)) ∧ M' = M35))))))))))) ∧ (a1 = (a2 : Int32) → (r = some (.int (-1)) ∧ M' = M22)))))))))))) : Ev G 0 [(0, .ref 0), (1, .int a1), (2, .int a2), (3, .int a3), (4, .int a4), (5, .int a5)] [] M := by
  refine e_aload_n (pc := 0) g 0 dX9_pump_0 rfl ?_
  refine e_getR (pc := 1) g 1 fl_X9_12 sh_0 rfl dX9_pump_1 ?_
  refine e_getR (pc := 4) g 2 fl_X9_48 sh_1 rfl dX9_pump_4 ?_
  refine e_iload_n (pc := 7) g 1 dX9_pump_7 rfl ?_
  obtain ⟨r3, M1, f2, h⟩ := h
  refine e_callV (As := [.int a1]) (S := []) (pc := 8) g ok_X0_has ml_X9_58 sh_2 ⟨_, rfl, rfl⟩ f2 (by omega) rfl (Nat.le_of_ble_eq_true rfl) dX9_pump_8 ?_
  refine e_to (S' := [.int r3]) rfl rfl rfl ?_
  refine e_if_eq (pc := 11) g 39 dX9_pump_11 (by decide) (fun c4 => ?_) (fun c4 => ?_)
  · have h := h.1 c4
    refine e_iconst (pc := 39) g (-1) dX9_pump_39 kc_m1 ?_
    exact e_iret (pc := 40) g gr rfl dX9_pump_40 h
  · have h := h.2 c4
    refine e_iload_n (pc := 14) g 2 dX9_pump_14 rfl ?_
    refine e_bipush (pc := 15) g (-4) dX9_pump_15 kb_m4 ?_
    refine e_icmp_eq (pc := 17) g 34 dX9_pump_17 (by decide) (fun c5 => ?_) (fun c5 => ?_)
    · have h := h.1 c5
      refine e_iload_n (pc := 34) g 1 dX9_pump_34 rfl ?_
      refine e_iload_n (pc := 35) g 2 dX9_pump_35 rfl ?_
      refine e_icmp_ne (pc := 36) g 41 dX9_pump_36 (by decide) (fun c6 => ?_) (fun c6 => ?_)
      · have h := h.1 c6
        refine e_iload_n (pc := 41) g 3 dX9_pump_41 rfl ?_
        refine e_iconst (pc := 42) g 1 dX9_pump_42 kc_1 ?_
        refine e_sipush (pc := 43) g 1000 dX9_pump_43 ks_1000 ?_
        obtain ⟨r9, M7, f8, h⟩ := h
        refine e_callS (As := [.int a3, .int 1, .int 1000]) (S := []) (pc := 46) g ok_X9_within ml_X9_39 f8 (by omega) rfl (Nat.le_of_ble_eq_true rfl) dX9_pump_46 ?_
        refine e_to (S' := [.int r9]) rfl rfl rfl ?_
        refine e_if_eq (pc := 49) g 74 dX9_pump_49 (by decide) (fun c10 => ?_) (fun c10 => ?_)
        · have h := h.1 c10
          refine e_iconst (pc := 74) g (-1) dX9_pump_74 kc_m1 ?_
          exact e_iret (pc := 75) g gr rfl dX9_pump_75 h
        · have h := h.2 c10
          refine e_iload (pc := 52) g 4 dX9_pump_52 rfl ?_
          refine e_iconst (pc := 54) g 1 dX9_pump_54 kc_1 ?_
          refine e_bipush (pc := 55) g 6 dX9_pump_55 kb_6 ?_
          obtain ⟨r13, M11, f12, h⟩ := h
          refine e_callS (As := [.int a4, .int 1, .int 6]) (S := []) (pc := 57) g ok_X9_within ml_X9_39 f12 (by omega) rfl (Nat.le_of_ble_eq_true rfl) dX9_pump_57 ?_
          refine e_to (S' := [.int r13]) rfl rfl rfl ?_
          refine e_if_eq (pc := 60) g 74 dX9_pump_60 (by decide) (fun c14 => ?_) (fun c14 => ?_)
          · have h := h.1 c14
            refine e_iconst (pc := 74) g (-1) dX9_pump_74 kc_m1 ?_
            exact e_iret (pc := 75) g gr rfl dX9_pump_75 h
          · have h := h.2 c14
            refine e_iload (pc := 63) g 5 dX9_pump_63 rfl ?_
            refine e_iconst (pc := 65) g 0 dX9_pump_65 kc_0 ?_
            refine e_ldc (pc := 66) g 16777215 kc_X9_94 dX9_pump_66 ?_
            obtain ⟨r17, M15, f16, h⟩ := h
            refine e_callS (As := [.int a5, .int 0, .int 16777215]) (S := []) (pc := 68) g ok_X9_within ml_X9_39 f16 (by omega) rfl (Nat.le_of_ble_eq_true rfl) dX9_pump_68 ?_
            refine e_to (S' := [.int r17]) rfl rfl rfl ?_
            refine e_if_ne (pc := 71) g 76 dX9_pump_71 (by decide) (fun c18 => ?_) (fun c18 => ?_)
            · have h := h.1 c18
              refine e_aload_n (pc := 76) g 0 dX9_pump_76 rfl ?_
              refine e_getR (pc := 77) g 1 fl_X9_12 sh_0 rfl dX9_pump_77 ?_
              refine e_getR (pc := 80) g 15 fl_X9_95 sh_1 rfl dX9_pump_80 ?_
              refine e_iload_n (pc := 83) g 1 dX9_pump_83 rfl ?_
              refine e_iload_n (pc := 84) g 2 dX9_pump_84 rfl ?_
              refine e_iload_n (pc := 85) g 3 dX9_pump_85 rfl ?_
              refine e_iload (pc := 86) g 4 dX9_pump_86 rfl ?_
              refine e_iload (pc := 88) g 5 dX9_pump_88 rfl ?_
              obtain ⟨r21, M19, f20, h⟩ := h
              refine e_callV (As := [.int a1, .int a2, .int a3, .int a4, .int a5]) (S := []) (pc := 90) g ok_X4_add ml_X9_99 sh_15 ⟨_, rfl, rfl⟩ f20 (by omega) rfl (Nat.le_of_ble_eq_true rfl) dX9_pump_90 ?_
              refine e_to (S' := [.int r21]) rfl rfl rfl ?_
              exact e_iret (pc := 93) g gr rfl dX9_pump_93 h
            · have h := h.2 c18
              refine e_iconst (pc := 74) g (-1) dX9_pump_74 kc_m1 ?_
              exact e_iret (pc := 75) g gr rfl dX9_pump_75 h
      · have h := h.2 c6
        refine e_iconst (pc := 39) g (-1) dX9_pump_39 kc_m1 ?_
        exact e_iret (pc := 40) g gr rfl dX9_pump_40 h
    · have h := h.2 c5
      refine e_aload_n (pc := 20) g 0 dX9_pump_20 rfl ?_
      refine e_getR (pc := 21) g 1 fl_X9_12 sh_0 rfl dX9_pump_21 ?_
      refine e_getR (pc := 24) g 2 fl_X9_48 sh_1 rfl dX9_pump_24 ?_
      refine e_iload_n (pc := 27) g 2 dX9_pump_27 rfl ?_
      obtain ⟨r24, M22, f23, h⟩ := h
      refine e_callV (As := [.int a2]) (S := []) (pc := 28) g ok_X0_has ml_X9_58 sh_2 ⟨_, rfl, rfl⟩ f23 (by omega) rfl (Nat.le_of_ble_eq_true rfl) dX9_pump_28 ?_
      refine e_to (S' := [.int r24]) rfl rfl rfl ?_
      refine e_if_eq (pc := 31) g 39 dX9_pump_31 (by decide) (fun c25 => ?_) (fun c25 => ?_)
      · have h := h.1 c25
        refine e_iconst (pc := 39) g (-1) dX9_pump_39 kc_m1 ?_
        exact e_iret (pc := 40) g gr rfl dX9_pump_40 h
      · have h := h.2 c25
        refine e_iload_n (pc := 34) g 1 dX9_pump_34 rfl ?_
        refine e_iload_n (pc := 35) g 2 dX9_pump_35 rfl ?_
        refine e_icmp_ne (pc := 36) g 41 dX9_pump_36 (by decide) (fun c26 => ?_) (fun c26 => ?_)
        · have h := h.1 c26
          refine e_iload_n (pc := 41) g 3 dX9_pump_41 rfl ?_
          refine e_iconst (pc := 42) g 1 dX9_pump_42 kc_1 ?_
          refine e_sipush (pc := 43) g 1000 dX9_pump_43 ks_1000 ?_
          obtain ⟨r29, M27, f28, h⟩ := h
          refine e_callS (As := [.int a3, .int 1, .int 1000]) (S := []) (pc := 46) g ok_X9_within ml_X9_39 f28 (by omega) rfl (Nat.le_of_ble_eq_true rfl) dX9_pump_46 ?_
          refine e_to (S' := [.int r29]) rfl rfl rfl ?_
          refine e_if_eq (pc := 49) g 74 dX9_pump_49 (by decide) (fun c30 => ?_) (fun c30 => ?_)
          · have h := h.1 c30
            refine e_iconst (pc := 74) g (-1) dX9_pump_74 kc_m1 ?_
            exact e_iret (pc := 75) g gr rfl dX9_pump_75 h
          · have h := h.2 c30
            refine e_iload (pc := 52) g 4 dX9_pump_52 rfl ?_
            refine e_iconst (pc := 54) g 1 dX9_pump_54 kc_1 ?_
            refine e_bipush (pc := 55) g 6 dX9_pump_55 kb_6 ?_
            obtain ⟨r33, M31, f32, h⟩ := h
            refine e_callS (As := [.int a4, .int 1, .int 6]) (S := []) (pc := 57) g ok_X9_within ml_X9_39 f32 (by omega) rfl (Nat.le_of_ble_eq_true rfl) dX9_pump_57 ?_
            refine e_to (S' := [.int r33]) rfl rfl rfl ?_
            refine e_if_eq (pc := 60) g 74 dX9_pump_60 (by decide) (fun c34 => ?_) (fun c34 => ?_)
            · have h := h.1 c34
              refine e_iconst (pc := 74) g (-1) dX9_pump_74 kc_m1 ?_
              exact e_iret (pc := 75) g gr rfl dX9_pump_75 h
            · have h := h.2 c34
              refine e_iload (pc := 63) g 5 dX9_pump_63 rfl ?_
              refine e_iconst (pc := 65) g 0 dX9_pump_65 kc_0 ?_
              refine e_ldc (pc := 66) g 16777215 kc_X9_94 dX9_pump_66 ?_
              obtain ⟨r37, M35, f36, h⟩ := h
              refine e_callS (As := [.int a5, .int 0, .int 16777215]) (S := []) (pc := 68) g ok_X9_within ml_X9_39 f36 (by omega) rfl (Nat.le_of_ble_eq_true rfl) dX9_pump_68 ?_
              refine e_to (S' := [.int r37]) rfl rfl rfl ?_
              refine e_if_ne (pc := 71) g 76 dX9_pump_71 (by decide) (fun c38 => ?_) (fun c38 => ?_)
              · have h := h.1 c38
                refine e_aload_n (pc := 76) g 0 dX9_pump_76 rfl ?_
                refine e_getR (pc := 77) g 1 fl_X9_12 sh_0 rfl dX9_pump_77 ?_
                refine e_getR (pc := 80) g 15 fl_X9_95 sh_1 rfl dX9_pump_80 ?_
                refine e_iload_n (pc := 83) g 1 dX9_pump_83 rfl ?_
                refine e_iload_n (pc := 84) g 2 dX9_pump_84 rfl ?_
                refine e_iload_n (pc := 85) g 3 dX9_pump_85 rfl ?_
                refine e_iload (pc := 86) g 4 dX9_pump_86 rfl ?_
                refine e_iload (pc := 88) g 5 dX9_pump_88 rfl ?_
                obtain ⟨r41, M39, f40, h⟩ := h
                refine e_callV (As := [.int a1, .int a2, .int a3, .int a4, .int a5]) (S := []) (pc := 90) g ok_X4_add ml_X9_99 sh_15 ⟨_, rfl, rfl⟩ f40 (by omega) rfl (Nat.le_of_ble_eq_true rfl) dX9_pump_90 ?_
                refine e_to (S' := [.int r41]) rfl rfl rfl ?_
                exact e_iret (pc := 93) g gr rfl dX9_pump_93 h
              · have h := h.2 c38
                refine e_iconst (pc := 74) g (-1) dX9_pump_74 kc_m1 ?_
                exact e_iret (pc := 75) g gr rfl dX9_pump_75 h
        · have h := h.2 c26
          refine e_iconst (pc := 39) g (-1) dX9_pump_39 kc_m1 ?_
          exact e_iret (pc := 40) g gr rfl dX9_pump_40 h
set_option maxHeartbeats 4000000 in
set_option maxRecDepth 100000 in
theorem b_X9_sluice_0 {G : GC} {n : Nat} {r : Option Value} {M' : MM} (g : Good G mX9_sluice n) (gr : GoodR G r M') (hn : 2 ≤ n) (a1 : Int32) (a2 : Int32)   (M : MM) (h : (∃ (r3 : Int32) (M1 : MM), Fn 1 mX0_has [.ref 2, .int a1] M (some (.int r3)) M1 ∧ ((r3 = (0 : Int32) → (r = some (.int (-1)) ∧ M' = M1)) ∧ (¬ (r3 = (0 : Int32)) → (∃ (r7 : Int32) (M5 : MM), Fn 1 mX9_within [.int a2, .int 1, .int 50] M1 (some (.int r7)) M5 ∧ ((¬ r7 = (0 : Int32) → (∃ (r11 : Int32) (M9 : MM), Fn 1 mX6_add [.ref 22, .int a1, .int a2] M5 (some (.int r11)) M9 ∧ (r = some (.int r11) ∧ M' = M9))) ∧ (r7 = (0 : Int32) → (r = some (.int (-1)) ∧ M' = M5)))))))) : Ev G 0 [(0, .ref 0), (1, .int a1), (2, .int a2)] [] M := by
  refine e_aload_n (pc := 0) g 0 dX9_sluice_0 rfl ?_
  refine e_getR (pc := 1) g 1 fl_X9_12 sh_0 rfl dX9_sluice_1 ?_
  refine e_getR (pc := 4) g 2 fl_X9_48 sh_1 rfl dX9_sluice_4 ?_
  refine e_iload_n (pc := 7) g 1 dX9_sluice_7 rfl ?_
  obtain ⟨r3, M1, f2, h⟩ := h
  refine e_callV (As := [.int a1]) (S := []) (pc := 8) g ok_X0_has ml_X9_58 sh_2 ⟨_, rfl, rfl⟩ f2 (by omega) rfl (Nat.le_of_ble_eq_true rfl) dX9_sluice_8 ?_
  refine e_to (S' := [.int r3]) rfl rfl rfl ?_
  refine e_if_eq (pc := 11) g 24 dX9_sluice_11 (by decide) (fun c4 => ?_) (fun c4 => ?_)
  · have h := h.1 c4
    refine e_iconst (pc := 24) g (-1) dX9_sluice_24 kc_m1 ?_
    exact e_iret (pc := 25) g gr rfl dX9_sluice_25 h
  · have h := h.2 c4
    refine e_iload_n (pc := 14) g 2 dX9_sluice_14 rfl ?_
    refine e_iconst (pc := 15) g 1 dX9_sluice_15 kc_1 ?_
    refine e_bipush (pc := 16) g 50 dX9_sluice_16 kb_50 ?_
    obtain ⟨r7, M5, f6, h⟩ := h
    refine e_callS (As := [.int a2, .int 1, .int 50]) (S := []) (pc := 18) g ok_X9_within ml_X9_39 f6 (by omega) rfl (Nat.le_of_ble_eq_true rfl) dX9_sluice_18 ?_
    refine e_to (S' := [.int r7]) rfl rfl rfl ?_
    refine e_if_ne (pc := 21) g 26 dX9_sluice_21 (by decide) (fun c8 => ?_) (fun c8 => ?_)
    · have h := h.1 c8
      refine e_aload_n (pc := 26) g 0 dX9_sluice_26 rfl ?_
      refine e_getR (pc := 27) g 1 fl_X9_12 sh_0 rfl dX9_sluice_27 ?_
      refine e_getR (pc := 30) g 22 fl_X9_104 sh_1 rfl dX9_sluice_30 ?_
      refine e_iload_n (pc := 33) g 1 dX9_sluice_33 rfl ?_
      refine e_iload_n (pc := 34) g 2 dX9_sluice_34 rfl ?_
      obtain ⟨r11, M9, f10, h⟩ := h
      refine e_callV (As := [.int a1, .int a2]) (S := []) (pc := 35) g ok_X6_add ml_X9_108 sh_22 ⟨_, rfl, rfl⟩ f10 (by omega) rfl (Nat.le_of_ble_eq_true rfl) dX9_sluice_35 ?_
      refine e_to (S' := [.int r11]) rfl rfl rfl ?_
      exact e_iret (pc := 38) g gr rfl dX9_sluice_38 h
    · have h := h.2 c8
      refine e_iconst (pc := 24) g (-1) dX9_sluice_24 kc_m1 ?_
      exact e_iret (pc := 25) g gr rfl dX9_sluice_25 h
set_option maxHeartbeats 4000000 in
set_option maxRecDepth 100000 in
theorem b_X9_turn_0 {G : GC} {n : Nat} {r : Option Value} {M' : MM} (g : Good G mX9_turn n) (gr : GoodR G r M') (hn : 5 ≤ n) (a1 : Int32) (a2 : Int32)   (M : MM) (h : (∃ (r3 : Int32) (M1 : MM), Fn 1 mX4_has [.ref 15, .int a1] M (some (.int r3)) M1 ∧ ((¬ r3 = (0 : Int32) → ((a2 = (0 : Int32) → (∃ (r8 : Int32) (M6 : MM), Fn 2 mX4_mustRunOn [.ref 15, .int a1, .int (M1.1 1 7)] M1 (some (.int r8)) M6 ∧ ((r8 = (0 : Int32) → (∃ (r12 : Int32) (M10 : MM), Fn 1 mX4_isOn [.ref 15, .int a1] M6 (some (.int r12)) M10 ∧ (∀ x14 : Int32, x14 = (if r12 = (0 : Int32) then 0 else 1) → (∃ M15 : MM, Fn 2 mX4_put [.ref 15, .int a1, .int a2, .int (M10.1 1 7)] M10 none M15 ∧ (r = some (.int x14) ∧ M' = M15))))) ∧ (¬ (r8 = (0 : Int32)) → (r = some (.int (-2)) ∧ M' = M6))))) ∧ (¬ (a2 = (0 : Int32)) → (∃ (r19 : Int32) (M17 : MM), Fn 4 mX4_mustStayOff [.ref 15, .int a1, .int (M1.1 1 7)] M1 (some (.int r19)) M17 ∧ ((r19 = (0 : Int32) → (∃ (r23 : Int32) (M21 : MM), Fn 1 mX4_isOn [.ref 15, .int a1] M17 (some (.int r23)) M21 ∧ (∀ x25 : Int32, x25 = (if r23 = (0 : Int32) then 0 else 1) → (∃ M26 : MM, Fn 2 mX4_put [.ref 15, .int a1, .int a2, .int (M21.1 1 7)] M21 none M26 ∧ (r = some (.int x25) ∧ M' = M26))))) ∧ (¬ (r19 = (0 : Int32)) → (r = some (.int (-2)) ∧ M' = M17))))))) ∧ (r3 = (0 : Int32) → (r = some (.int (-1)) ∧ M' = M1))))) : Ev G 0 [(0, .ref 0), (1, .int a1), (2, .int a2)] [] M := by
  refine e_aload_n (pc := 0) g 0 dX9_turn_0 rfl ?_
  refine e_getR (pc := 1) g 1 fl_X9_12 sh_0 rfl dX9_turn_1 ?_
  refine e_getR (pc := 4) g 15 fl_X9_95 sh_1 rfl dX9_turn_4 ?_
  refine e_astore_n (pc := 7) g [(0, .ref 0), (1, .int a1), (2, .int a2), (3, .ref 15)] dX9_turn_7 (by decide) rfl ?_
  refine e_aload_n (pc := 8) g 3 dX9_turn_8 rfl ?_
  refine e_iload_n (pc := 9) g 1 dX9_turn_9 rfl ?_
  obtain ⟨r3, M1, f2, h⟩ := h
  refine e_callV (As := [.int a1]) (S := []) (pc := 10) g ok_X4_has ml_X9_113 sh_15 ⟨_, rfl, rfl⟩ f2 (by omega) rfl (Nat.le_of_ble_eq_true rfl) dX9_turn_10 ?_
  refine e_to (S' := [.int r3]) rfl rfl rfl ?_
  refine e_if_ne (pc := 13) g 18 dX9_turn_13 (by decide) (fun c4 => ?_) (fun c4 => ?_)
  · have h := h.1 c4
    refine e_iload_n (pc := 18) g 2 dX9_turn_18 rfl ?_
    refine e_if_eq (pc := 19) g 40 dX9_turn_19 (by decide) (fun c5 => ?_) (fun c5 => ?_)
    · have h := h.1 c5
      refine e_aload_n (pc := 40) g 3 dX9_turn_40 rfl ?_
      refine e_iload_n (pc := 41) g 1 dX9_turn_41 rfl ?_
      refine e_aload_n (pc := 42) g 0 dX9_turn_42 rfl ?_
      refine e_getR (pc := 43) g 1 fl_X9_12 sh_0 rfl dX9_turn_43 ?_
      refine e_getI (pc := 46) g fl_X9_114 sh_1 rfl dX9_turn_46 ?_
      obtain ⟨r8, M6, f7, h⟩ := h
      refine e_callV (As := [.int a1, .int (M1.1 1 7)]) (S := []) (pc := 49) g ok_X4_mustRunOn ml_X9_122 sh_15 ⟨_, rfl, rfl⟩ f7 (by omega) rfl (Nat.le_of_ble_eq_true rfl) dX9_turn_49 ?_
      refine e_to (S' := [.int r8]) rfl rfl rfl ?_
      refine e_if_eq (pc := 52) g 58 dX9_turn_52 (by decide) (fun c9 => ?_) (fun c9 => ?_)
      · have h := h.1 c9
        refine e_aload_n (pc := 58) g 3 dX9_turn_58 rfl ?_
        refine e_iload_n (pc := 59) g 1 dX9_turn_59 rfl ?_
        obtain ⟨r12, M10, f11, h⟩ := h
        refine e_callV (As := [.int a1]) (S := []) (pc := 60) g ok_X4_isOn ml_X9_125 sh_15 ⟨_, rfl, rfl⟩ f11 (by omega) rfl (Nat.le_of_ble_eq_true rfl) dX9_turn_60 ?_
        refine e_to (S' := [.int r12]) rfl rfl rfl ?_
        have hj : Ev G 71 [(0, .ref 0), (1, .int a1), (2, .int a2), (3, .ref 15)] [.int (if r12 = (0 : Int32) then 0 else 1)] M10 := by
          obtain ⟨x14, qx14⟩ : ∃ y : Int32, y = (if r12 = (0 : Int32) then 0 else 1) := ⟨_, rfl⟩
          have h := h x14 qx14
          refine e_to (S' := [.int x14]) rfl (by rw [qx14]) rfl ?_
          refine e_istore (pc := 71) g [(0, .ref 0), (1, .int a1), (2, .int a2), (3, .ref 15), (4, .int x14)] dX9_turn_71 (by decide) rfl ?_
          refine e_aload_n (pc := 73) g 3 dX9_turn_73 rfl ?_
          refine e_iload_n (pc := 74) g 1 dX9_turn_74 rfl ?_
          refine e_iload_n (pc := 75) g 2 dX9_turn_75 rfl ?_
          refine e_aload_n (pc := 76) g 0 dX9_turn_76 rfl ?_
          refine e_getR (pc := 77) g 1 fl_X9_12 sh_0 rfl dX9_turn_77 ?_
          refine e_getI (pc := 80) g fl_X9_114 sh_1 rfl dX9_turn_80 ?_
          obtain ⟨M15, f16, h⟩ := h
          refine e_callV (As := [.int a1, .int a2, .int (M10.1 1 7)]) (S := []) (pc := 83) g ok_X4_put ml_X9_128 sh_15 ⟨_, rfl, rfl⟩ f16 (by omega) rfl (Nat.le_of_ble_eq_true rfl) dX9_turn_83 ?_
          refine e_to (S' := []) rfl rfl rfl ?_
          refine e_iload (pc := 86) g 4 dX9_turn_86 rfl ?_
          exact e_iret (pc := 88) g gr rfl dX9_turn_88 h
        refine e_if_eq (pc := 63) g 70 dX9_turn_63 (by decide) (fun c13 => ?_) (fun c13 => ?_)
        · rw [if_pos c13] at hj
          refine e_iconst (pc := 70) g 0 dX9_turn_70 kc_0 ?_
          exact hj
        · rw [if_neg c13] at hj
          refine e_iconst (pc := 66) g 1 dX9_turn_66 kc_1 ?_
          refine e_goto (pc := 67) g 71 dX9_turn_67 (by decide) ?_
          exact hj
      · have h := h.2 c9
        refine e_bipush (pc := 55) g (-2) dX9_turn_55 kb_m2 ?_
        exact e_iret (pc := 57) g gr rfl dX9_turn_57 h
    · have h := h.2 c5
      refine e_aload_n (pc := 22) g 3 dX9_turn_22 rfl ?_
      refine e_iload_n (pc := 23) g 1 dX9_turn_23 rfl ?_
      refine e_aload_n (pc := 24) g 0 dX9_turn_24 rfl ?_
      refine e_getR (pc := 25) g 1 fl_X9_12 sh_0 rfl dX9_turn_25 ?_
      refine e_getI (pc := 28) g fl_X9_114 sh_1 rfl dX9_turn_28 ?_
      obtain ⟨r19, M17, f18, h⟩ := h
      refine e_callV (As := [.int a1, .int (M1.1 1 7)]) (S := []) (pc := 31) g ok_X4_mustStayOff ml_X9_118 sh_15 ⟨_, rfl, rfl⟩ f18 (by omega) rfl (Nat.le_of_ble_eq_true rfl) dX9_turn_31 ?_
      refine e_to (S' := [.int r19]) rfl rfl rfl ?_
      refine e_if_eq (pc := 34) g 58 dX9_turn_34 (by decide) (fun c20 => ?_) (fun c20 => ?_)
      · have h := h.1 c20
        refine e_aload_n (pc := 58) g 3 dX9_turn_58 rfl ?_
        refine e_iload_n (pc := 59) g 1 dX9_turn_59 rfl ?_
        obtain ⟨r23, M21, f22, h⟩ := h
        refine e_callV (As := [.int a1]) (S := []) (pc := 60) g ok_X4_isOn ml_X9_125 sh_15 ⟨_, rfl, rfl⟩ f22 (by omega) rfl (Nat.le_of_ble_eq_true rfl) dX9_turn_60 ?_
        refine e_to (S' := [.int r23]) rfl rfl rfl ?_
        have hj : Ev G 71 [(0, .ref 0), (1, .int a1), (2, .int a2), (3, .ref 15)] [.int (if r23 = (0 : Int32) then 0 else 1)] M21 := by
          obtain ⟨x25, qx25⟩ : ∃ y : Int32, y = (if r23 = (0 : Int32) then 0 else 1) := ⟨_, rfl⟩
          have h := h x25 qx25
          refine e_to (S' := [.int x25]) rfl (by rw [qx25]) rfl ?_
          refine e_istore (pc := 71) g [(0, .ref 0), (1, .int a1), (2, .int a2), (3, .ref 15), (4, .int x25)] dX9_turn_71 (by decide) rfl ?_
          refine e_aload_n (pc := 73) g 3 dX9_turn_73 rfl ?_
          refine e_iload_n (pc := 74) g 1 dX9_turn_74 rfl ?_
          refine e_iload_n (pc := 75) g 2 dX9_turn_75 rfl ?_
          refine e_aload_n (pc := 76) g 0 dX9_turn_76 rfl ?_
          refine e_getR (pc := 77) g 1 fl_X9_12 sh_0 rfl dX9_turn_77 ?_
          refine e_getI (pc := 80) g fl_X9_114 sh_1 rfl dX9_turn_80 ?_
          obtain ⟨M26, f27, h⟩ := h
          refine e_callV (As := [.int a1, .int a2, .int (M21.1 1 7)]) (S := []) (pc := 83) g ok_X4_put ml_X9_128 sh_15 ⟨_, rfl, rfl⟩ f27 (by omega) rfl (Nat.le_of_ble_eq_true rfl) dX9_turn_83 ?_
          refine e_to (S' := []) rfl rfl rfl ?_
          refine e_iload (pc := 86) g 4 dX9_turn_86 rfl ?_
          exact e_iret (pc := 88) g gr rfl dX9_turn_88 h
        refine e_if_eq (pc := 63) g 70 dX9_turn_63 (by decide) (fun c24 => ?_) (fun c24 => ?_)
        · rw [if_pos c24] at hj
          refine e_iconst (pc := 70) g 0 dX9_turn_70 kc_0 ?_
          exact hj
        · rw [if_neg c24] at hj
          refine e_iconst (pc := 66) g 1 dX9_turn_66 kc_1 ?_
          refine e_goto (pc := 67) g 71 dX9_turn_67 (by decide) ?_
          exact hj
      · have h := h.2 c20
        refine e_goto (pc := 37) g 55 dX9_turn_37 (by decide) ?_
        refine e_bipush (pc := 55) g (-2) dX9_turn_55 kb_m2 ?_
        exact e_iret (pc := 57) g gr rfl dX9_turn_57 h
  · have h := h.2 c4
    refine e_iconst (pc := 16) g (-1) dX9_turn_16 kc_m1 ?_
    exact e_iret (pc := 17) g gr rfl dX9_turn_17 h
set_option maxHeartbeats 4000000 in
set_option maxRecDepth 100000 in
theorem b_X9_open_0 {G : GC} {n : Nat} {r : Option Value} {M' : MM} (g : Good G mX9_open n) (gr : GoodR G r M') (hn : 2 ≤ n) (a1 : Int32) (a2 : Int32)   (M : MM) (h : (∃ (r3 : Int32) (M1 : MM), Fn 1 mX6_has [.ref 22, .int a1] M (some (.int r3)) M1 ∧ ((¬ r3 = (0 : Int32) → (vp_in a1 4) ∧ (∀ x7 : Int32, x7 = (if (M1.1 25 a1.toNatClampNeg) = (0 : Int32) then 0 else 1) → (∀ M8 : MM, M8 = ui M1 25 a1.toNatClampNeg (vp_nar .boolean a2) → (r = some (.int x7) ∧ M' = M8)))) ∧ (r3 = (0 : Int32) → (r = some (.int (-1)) ∧ M' = M1))))) : Ev G 0 [(0, .ref 0), (1, .int a1), (2, .int a2)] [] M := by
  refine e_aload_n (pc := 0) g 0 dX9_open_0 rfl ?_
  refine e_getR (pc := 1) g 1 fl_X9_12 sh_0 rfl dX9_open_1 ?_
  refine e_getR (pc := 4) g 22 fl_X9_104 sh_1 rfl dX9_open_4 ?_
  refine e_astore_n (pc := 7) g [(0, .ref 0), (1, .int a1), (2, .int a2), (3, .ref 22)] dX9_open_7 (by decide) rfl ?_
  refine e_aload_n (pc := 8) g 3 dX9_open_8 rfl ?_
  refine e_iload_n (pc := 9) g 1 dX9_open_9 rfl ?_
  obtain ⟨r3, M1, f2, h⟩ := h
  refine e_callV (As := [.int a1]) (S := []) (pc := 10) g ok_X6_has ml_X9_132 sh_22 ⟨_, rfl, rfl⟩ f2 (by omega) rfl (Nat.le_of_ble_eq_true rfl) dX9_open_10 ?_
  refine e_to (S' := [.int r3]) rfl rfl rfl ?_
  refine e_if_ne (pc := 13) g 18 dX9_open_13 (by decide) (fun c4 => ?_) (fun c4 => ?_)
  · have h := h.1 c4
    refine e_aload_n (pc := 18) g 3 dX9_open_18 rfl ?_
    refine e_getR (pc := 19) g 25 fl_X9_133 sh_22 rfl dX9_open_19 ?_
    refine e_iload_n (pc := 22) g 1 dX9_open_22 rfl ?_
    obtain ⟨o5, h⟩ := h
    refine e_zald (pc := 23) g sh_25 o5 dX9_open_23 ?_
    have hj : Ev G 32 [(0, .ref 0), (1, .int a1), (2, .int a2), (3, .ref 22)] [.int (if (M1.1 25 a1.toNatClampNeg) = (0 : Int32) then 0 else 1)] M1 := by
      obtain ⟨x7, qx7⟩ : ∃ y : Int32, y = (if (M1.1 25 a1.toNatClampNeg) = (0 : Int32) then 0 else 1) := ⟨_, rfl⟩
      have h := h x7 qx7
      refine e_to (S' := [.int x7]) rfl (by rw [qx7]) rfl ?_
      refine e_istore (pc := 32) g [(0, .ref 0), (1, .int a1), (2, .int a2), (3, .ref 22), (4, .int x7)] dX9_open_32 (by decide) rfl ?_
      refine e_aload_n (pc := 34) g 3 dX9_open_34 rfl ?_
      refine e_getR (pc := 35) g 25 fl_X9_133 sh_22 rfl dX9_open_35 ?_
      refine e_iload_n (pc := 38) g 1 dX9_open_38 rfl ?_
      refine e_iload_n (pc := 39) g 2 dX9_open_39 rfl ?_
      refine e_zast (pc := 40) g sh_25 o5 dX9_open_40 ?_
      obtain ⟨M8, qM8⟩ : ∃ y : MM, y = ui M1 25 a1.toNatClampNeg (vp_nar .boolean a2) := ⟨_, rfl⟩
      have h := h M8 qM8
      refine e_to (M' := M8) rfl rfl (by rw [qM8]) ?_
      refine e_iload (pc := 41) g 4 dX9_open_41 rfl ?_
      exact e_iret (pc := 43) g gr rfl dX9_open_43 h
    refine e_if_eq (pc := 24) g 31 dX9_open_24 (by decide) (fun c6 => ?_) (fun c6 => ?_)
    · rw [if_pos c6] at hj
      refine e_iconst (pc := 31) g 0 dX9_open_31 kc_0 ?_
      exact hj
    · rw [if_neg c6] at hj
      refine e_iconst (pc := 27) g 1 dX9_open_27 kc_1 ?_
      refine e_goto (pc := 28) g 32 dX9_open_28 (by decide) ?_
      exact hj
  · have h := h.2 c4
    refine e_iconst (pc := 16) g (-1) dX9_open_16 kc_m1 ?_
    exact e_iret (pc := 17) g gr rfl dX9_open_17 h
set_option maxHeartbeats 4000000 in
set_option maxRecDepth 100000 in
theorem b_X9_tide_0 {G : GC} {n : Nat} {r : Option Value} {M' : MM} (g : Good G mX9_tide n) (gr : GoodR G r M') (hn : 3 ≤ n) (a1 : Int32) (a2 : Int32)   (M : MM) (h : (∃ (r3 : Int32) (M1 : MM), Fn 2 mX9_isHourOfDay [.int a1] M (some (.int r3)) M1 ∧ ((r3 = (0 : Int32) → (r = some (.int (-1000000)) ∧ M' = M1)) ∧ (¬ (r3 = (0 : Int32)) → (∃ (r7 : Int32) (M5 : MM), Fn 2 mX9_isHeight [.int a2] M1 (some (.int r7)) M5 ∧ ((¬ r7 = (0 : Int32) → (vp_in a1 24) ∧ (∀ x10 : Int32, x10 = (M5.1 30 a1.toNatClampNeg) → (∀ M11 : MM, M11 = ui M5 30 a1.toNatClampNeg a2 → (r = some (.int x10) ∧ M' = M11)))) ∧ (r7 = (0 : Int32) → (r = some (.int (-1000000)) ∧ M' = M5)))))))) : Ev G 0 [(0, .ref 0), (1, .int a1), (2, .int a2)] [] M := by
  refine e_iload_n (pc := 0) g 1 dX9_tide_0 rfl ?_
  obtain ⟨r3, M1, f2, h⟩ := h
  refine e_callS (As := [.int a1]) (S := []) (pc := 1) g ok_X9_isHourOfDay ml_X9_137 f2 (by omega) rfl (Nat.le_of_ble_eq_true rfl) dX9_tide_1 ?_
  refine e_to (S' := [.int r3]) rfl rfl rfl ?_
  refine e_if_eq (pc := 4) g 14 dX9_tide_4 (by decide) (fun c4 => ?_) (fun c4 => ?_)
  · have h := h.1 c4
    refine e_ldc (pc := 14) g (-1000000) kc_X9_68 dX9_tide_14 ?_
    exact e_iret (pc := 16) g gr rfl dX9_tide_16 h
  · have h := h.2 c4
    refine e_iload_n (pc := 7) g 2 dX9_tide_7 rfl ?_
    obtain ⟨r7, M5, f6, h⟩ := h
    refine e_callS (As := [.int a2]) (S := []) (pc := 8) g ok_X9_isHeight ml_X9_43 f6 (by omega) rfl (Nat.le_of_ble_eq_true rfl) dX9_tide_8 ?_
    refine e_to (S' := [.int r7]) rfl rfl rfl ?_
    refine e_if_ne (pc := 11) g 17 dX9_tide_11 (by decide) (fun c8 => ?_) (fun c8 => ?_)
    · have h := h.1 c8
      refine e_aload_n (pc := 17) g 0 dX9_tide_17 rfl ?_
      refine e_getR (pc := 18) g 1 fl_X9_12 sh_0 rfl dX9_tide_18 ?_
      refine e_getR (pc := 21) g 30 fl_X9_140 sh_1 rfl dX9_tide_21 ?_
      refine e_iload_n (pc := 24) g 1 dX9_tide_24 rfl ?_
      obtain ⟨o9, h⟩ := h
      refine e_iald (pc := 25) g sh_30 o9 dX9_tide_25 ?_
      obtain ⟨x10, qx10⟩ : ∃ y : Int32, y = (M5.1 30 a1.toNatClampNeg) := ⟨_, rfl⟩
      have h := h x10 qx10
      refine e_to (S' := [.int x10]) rfl (by rw [qx10]) rfl ?_
      refine e_istore_n (pc := 26) g [(0, .ref 0), (1, .int a1), (2, .int a2), (3, .int x10)] dX9_tide_26 (by decide) rfl ?_
      refine e_aload_n (pc := 27) g 0 dX9_tide_27 rfl ?_
      refine e_getR (pc := 28) g 1 fl_X9_12 sh_0 rfl dX9_tide_28 ?_
      refine e_getR (pc := 31) g 30 fl_X9_140 sh_1 rfl dX9_tide_31 ?_
      refine e_iload_n (pc := 34) g 1 dX9_tide_34 rfl ?_
      refine e_iload_n (pc := 35) g 2 dX9_tide_35 rfl ?_
      refine e_iast (pc := 36) g sh_30 o9 dX9_tide_36 ?_
      obtain ⟨M11, qM11⟩ : ∃ y : MM, y = ui M5 30 a1.toNatClampNeg a2 := ⟨_, rfl⟩
      have h := h M11 qM11
      refine e_to (M' := M11) rfl rfl (by rw [qM11]) ?_
      refine e_iload_n (pc := 37) g 3 dX9_tide_37 rfl ?_
      exact e_iret (pc := 38) g gr rfl dX9_tide_38 h
    · have h := h.2 c8
      refine e_ldc (pc := 14) g (-1000000) kc_X9_68 dX9_tide_14 ?_
      exact e_iret (pc := 16) g gr rfl dX9_tide_16 h
set_option maxHeartbeats 4000000 in
set_option maxRecDepth 100000 in
theorem b_X9_price_0 {G : GC} {n : Nat} {r : Option Value} {M' : MM} (g : Good G mX9_price n) (gr : GoodR G r M') (hn : 3 ≤ n) (a1 : Int32) (a2 : Int32)   (M : MM) (h : (∃ (r3 : Int32) (M1 : MM), Fn 2 mX9_isHourOfDay [.int a1] M (some (.int r3)) M1 ∧ ((r3 = (0 : Int32) → (r = some (.int (-1)) ∧ M' = M1)) ∧ (¬ (r3 = (0 : Int32)) → (∃ (r7 : Int32) (M5 : MM), Fn 1 mX9_within [.int a2, .int 0, .int 100] M1 (some (.int r7)) M5 ∧ ((¬ r7 = (0 : Int32) → (vp_in a1 24) ∧ (∀ x10 : Int32, x10 = (M5.1 31 a1.toNatClampNeg) → (∀ M11 : MM, M11 = ui M5 31 a1.toNatClampNeg a2 → (r = some (.int x10) ∧ M' = M11)))) ∧ (r7 = (0 : Int32) → (r = some (.int (-1)) ∧ M' = M5)))))))) : Ev G 0 [(0, .ref 0), (1, .int a1), (2, .int a2)] [] M := by
  refine e_iload_n (pc := 0) g 1 dX9_price_0 rfl ?_
  obtain ⟨r3, M1, f2, h⟩ := h
  refine e_callS (As := [.int a1]) (S := []) (pc := 1) g ok_X9_isHourOfDay ml_X9_137 f2 (by omega) rfl (Nat.le_of_ble_eq_true rfl) dX9_price_1 ?_
  refine e_to (S' := [.int r3]) rfl rfl rfl ?_
  refine e_if_eq (pc := 4) g 17 dX9_price_4 (by decide) (fun c4 => ?_) (fun c4 => ?_)
  · have h := h.1 c4
    refine e_iconst (pc := 17) g (-1) dX9_price_17 kc_m1 ?_
    exact e_iret (pc := 18) g gr rfl dX9_price_18 h
  · have h := h.2 c4
    refine e_iload_n (pc := 7) g 2 dX9_price_7 rfl ?_
    refine e_iconst (pc := 8) g 0 dX9_price_8 kc_0 ?_
    refine e_bipush (pc := 9) g 100 dX9_price_9 kb_100 ?_
    obtain ⟨r7, M5, f6, h⟩ := h
    refine e_callS (As := [.int a2, .int 0, .int 100]) (S := []) (pc := 11) g ok_X9_within ml_X9_39 f6 (by omega) rfl (Nat.le_of_ble_eq_true rfl) dX9_price_11 ?_
    refine e_to (S' := [.int r7]) rfl rfl rfl ?_
    refine e_if_ne (pc := 14) g 19 dX9_price_14 (by decide) (fun c8 => ?_) (fun c8 => ?_)
    · have h := h.1 c8
      refine e_aload_n (pc := 19) g 0 dX9_price_19 rfl ?_
      refine e_getR (pc := 20) g 1 fl_X9_12 sh_0 rfl dX9_price_20 ?_
      refine e_getR (pc := 23) g 31 fl_X9_143 sh_1 rfl dX9_price_23 ?_
      refine e_iload_n (pc := 26) g 1 dX9_price_26 rfl ?_
      obtain ⟨o9, h⟩ := h
      refine e_iald (pc := 27) g sh_31 o9 dX9_price_27 ?_
      obtain ⟨x10, qx10⟩ : ∃ y : Int32, y = (M5.1 31 a1.toNatClampNeg) := ⟨_, rfl⟩
      have h := h x10 qx10
      refine e_to (S' := [.int x10]) rfl (by rw [qx10]) rfl ?_
      refine e_istore_n (pc := 28) g [(0, .ref 0), (1, .int a1), (2, .int a2), (3, .int x10)] dX9_price_28 (by decide) rfl ?_
      refine e_aload_n (pc := 29) g 0 dX9_price_29 rfl ?_
      refine e_getR (pc := 30) g 1 fl_X9_12 sh_0 rfl dX9_price_30 ?_
      refine e_getR (pc := 33) g 31 fl_X9_143 sh_1 rfl dX9_price_33 ?_
      refine e_iload_n (pc := 36) g 1 dX9_price_36 rfl ?_
      refine e_iload_n (pc := 37) g 2 dX9_price_37 rfl ?_
      refine e_iast (pc := 38) g sh_31 o9 dX9_price_38 ?_
      obtain ⟨M11, qM11⟩ : ∃ y : MM, y = ui M5 31 a1.toNatClampNeg a2 := ⟨_, rfl⟩
      have h := h M11 qM11
      refine e_to (M' := M11) rfl rfl (by rw [qM11]) ?_
      refine e_iload_n (pc := 39) g 3 dX9_price_39 rfl ?_
      exact e_iret (pc := 40) g gr rfl dX9_price_40 h
    · have h := h.2 c8
      refine e_iconst (pc := 17) g (-1) dX9_price_17 kc_m1 ?_
      exact e_iret (pc := 18) g gr rfl dX9_price_18 h
set_option maxHeartbeats 4000000 in
set_option maxRecDepth 100000 in
theorem b_X9_step_0 {G : GC} {n : Nat} {r : Option Value} {M' : MM} (g : Good G mX9_step n) (gr : GoodR G r M') (hn : 6 ≤ n) (a1 : Int32)   (M : MM) (h : (∃ (r3 : Int32) (M1 : MM), Fn 2 mX9_isRain [.int a1] M (some (.int r3)) M1 ∧ ((¬ r3 = (0 : Int32) → (∃ (r7 : Int32) (M5 : MM), Fn 5 mX2_advance [.ref 1, .int a1] M1 (some (.int r7)) M5 ∧ (r = some (.int r7) ∧ M' = M5))) ∧ (r3 = (0 : Int32) → (r = some (.int (-1)) ∧ M' = M1))))) : Ev G 0 [(0, .ref 0), (1, .int a1)] [] M := by
  refine e_iload_n (pc := 0) g 1 dX9_step_0 rfl ?_
  obtain ⟨r3, M1, f2, h⟩ := h
  refine e_callS (As := [.int a1]) (S := []) (pc := 1) g ok_X9_isRain ml_X9_146 f2 (by omega) rfl (Nat.le_of_ble_eq_true rfl) dX9_step_1 ?_
  refine e_to (S' := [.int r3]) rfl rfl rfl ?_
  refine e_if_ne (pc := 4) g 9 dX9_step_4 (by decide) (fun c4 => ?_) (fun c4 => ?_)
  · have h := h.1 c4
    refine e_aload_n (pc := 9) g 0 dX9_step_9 rfl ?_
    refine e_getR (pc := 10) g 1 fl_X9_12 sh_0 rfl dX9_step_10 ?_
    refine e_iload_n (pc := 13) g 1 dX9_step_13 rfl ?_
    obtain ⟨r7, M5, f6, h⟩ := h
    refine e_callV (As := [.int a1]) (S := []) (pc := 14) g ok_X2_advance ml_X9_149 sh_1 ⟨_, rfl, rfl⟩ f6 (by omega) rfl (Nat.le_of_ble_eq_true rfl) dX9_step_14 ?_
    refine e_to (S' := [.int r7]) rfl rfl rfl ?_
    exact e_iret (pc := 17) g gr rfl dX9_step_17 h
  · have h := h.2 c4
    refine e_iconst (pc := 7) g (-1) dX9_step_7 kc_m1 ?_
    exact e_iret (pc := 8) g gr rfl dX9_step_8 h
set_option maxHeartbeats 4000000 in
set_option maxRecDepth 100000 in
theorem b_X9_passed_0 {G : GC} {n : Nat} {r : Option Value} {M' : MM} (g : Good G mX9_passed n) (gr : GoodR G r M') (hn : 2 ≤ n) (a1 : Int32) (a2 : Int32)   (M : MM) (h : ((a1 = (0 : Int32) → (∃ (r3 : Int32) (M1 : MM), Fn 1 mX7_has [.ref 10, .int a2] M (some (.int r3)) M1 ∧ ((r3 = (0 : Int32) → (r = some (.int (-1)) ∧ M' = M1)) ∧ (¬ (r3 = (0 : Int32)) → (vp_in a2 8) ∧ (r = some (.int (M1.1 27 a2.toNatClampNeg)) ∧ M' = M1))))) ∧ (a1 = (1 : Int32) → (∃ (r8 : Int32) (M6 : MM), Fn 1 mX4_has [.ref 15, .int a2] M (some (.int r8)) M6 ∧ ((r8 = (0 : Int32) → (r = some (.int (-1)) ∧ M' = M6)) ∧ (¬ (r8 = (0 : Int32)) → (vp_in a2 4) ∧ (r = some (.int (M6.1 28 a2.toNatClampNeg)) ∧ M' = M6))))) ∧ (a1 = (2 : Int32) → (∃ (r13 : Int32) (M11 : MM), Fn 1 mX6_has [.ref 22, .int a2] M (some (.int r13)) M11 ∧ ((r13 = (0 : Int32) → (r = some (.int (-1)) ∧ M' = M11)) ∧ (¬ (r13 = (0 : Int32)) → (vp_in a2 4) ∧ (r = some (.int (M11.1 29 a2.toNatClampNeg)) ∧ M' = M11))))) ∧ (¬ a1 = (0 : Int32) → ¬ a1 = (1 : Int32) → ¬ a1 = (2 : Int32) → (r = some (.int (-1)) ∧ M' = M)))) : Ev G 0 [(0, .ref 0), (1, .int a1), (2, .int a2)] [] M := by
  refine e_iload_n (pc := 0) g 1 dX9_passed_0 rfl ?_
  obtain ⟨h0, h1, h2, hd⟩ := h
  by_cases cs0 : a1 = (0 : Int32)
  · have h := h0 cs0
    refine e_to (S' := [.int 0]) rfl (by rw [cs0]) rfl ?_
    refine e_tabIn (off := 27) (pc := 1) g 28 dX9_passed_1 (by decide) (by decide) (by decide +kernel) (by decide) ?_
    refine e_aload_n (pc := 28) g 0 dX9_passed_28 rfl ?_
    refine e_getR (pc := 29) g 1 fl_X9_12 sh_0 rfl dX9_passed_29 ?_
    refine e_getR (pc := 32) g 10 fl_X9_85 sh_1 rfl dX9_passed_32 ?_
    refine e_iload_n (pc := 35) g 2 dX9_passed_35 rfl ?_
    obtain ⟨r3, M1, f2, h⟩ := h
    refine e_callV (As := [.int a2]) (S := []) (pc := 36) g ok_X7_has ml_X9_153 sh_10 ⟨_, rfl, rfl⟩ f2 (by omega) rfl (Nat.le_of_ble_eq_true rfl) dX9_passed_36 ?_
    refine e_to (S' := [.int r3]) rfl rfl rfl ?_
    refine e_if_eq (pc := 39) g 57 dX9_passed_39 (by decide) (fun c4 => ?_) (fun c4 => ?_)
    · have h := h.1 c4
      refine e_iconst (pc := 57) g (-1) dX9_passed_57 kc_m1 ?_
      exact e_iret (pc := 58) g gr rfl dX9_passed_58 h
    · have h := h.2 c4
      refine e_aload_n (pc := 42) g 0 dX9_passed_42 rfl ?_
      refine e_getR (pc := 43) g 1 fl_X9_12 sh_0 rfl dX9_passed_43 ?_
      refine e_getR (pc := 46) g 26 fl_X9_154 sh_1 rfl dX9_passed_46 ?_
      refine e_getR (pc := 49) g 27 fl_X9_158 sh_26 rfl dX9_passed_49 ?_
      refine e_iload_n (pc := 52) g 2 dX9_passed_52 rfl ?_
      obtain ⟨o5, h⟩ := h
      refine e_iald (pc := 53) g sh_27 o5 dX9_passed_53 ?_
      refine e_goto (pc := 54) g 58 dX9_passed_54 (by decide) ?_
      exact e_iret (pc := 58) g gr rfl dX9_passed_58 h
  by_cases cs1 : a1 = (1 : Int32)
  · have h := h1 cs1
    refine e_to (S' := [.int 1]) rfl (by rw [cs1]) rfl ?_
    refine e_tabIn (off := 58) (pc := 1) g 59 dX9_passed_1 (by decide) (by decide) (by decide +kernel) (by decide) ?_
    refine e_aload_n (pc := 59) g 0 dX9_passed_59 rfl ?_
    refine e_getR (pc := 60) g 1 fl_X9_12 sh_0 rfl dX9_passed_60 ?_
    refine e_getR (pc := 63) g 15 fl_X9_95 sh_1 rfl dX9_passed_63 ?_
    refine e_iload_n (pc := 66) g 2 dX9_passed_66 rfl ?_
    obtain ⟨r8, M6, f7, h⟩ := h
    refine e_callV (As := [.int a2]) (S := []) (pc := 67) g ok_X4_has ml_X9_113 sh_15 ⟨_, rfl, rfl⟩ f7 (by omega) rfl (Nat.le_of_ble_eq_true rfl) dX9_passed_67 ?_
    refine e_to (S' := [.int r8]) rfl rfl rfl ?_
    refine e_if_eq (pc := 70) g 88 dX9_passed_70 (by decide) (fun c9 => ?_) (fun c9 => ?_)
    · have h := h.1 c9
      refine e_iconst (pc := 88) g (-1) dX9_passed_88 kc_m1 ?_
      exact e_iret (pc := 89) g gr rfl dX9_passed_89 h
    · have h := h.2 c9
      refine e_aload_n (pc := 73) g 0 dX9_passed_73 rfl ?_
      refine e_getR (pc := 74) g 1 fl_X9_12 sh_0 rfl dX9_passed_74 ?_
      refine e_getR (pc := 77) g 26 fl_X9_154 sh_1 rfl dX9_passed_77 ?_
      refine e_getR (pc := 80) g 28 fl_X9_162 sh_26 rfl dX9_passed_80 ?_
      refine e_iload_n (pc := 83) g 2 dX9_passed_83 rfl ?_
      obtain ⟨o10, h⟩ := h
      refine e_iald (pc := 84) g sh_28 o10 dX9_passed_84 ?_
      refine e_goto (pc := 85) g 89 dX9_passed_85 (by decide) ?_
      exact e_iret (pc := 89) g gr rfl dX9_passed_89 h
  by_cases cs2 : a1 = (2 : Int32)
  · have h := h2 cs2
    refine e_to (S' := [.int 2]) rfl (by rw [cs2]) rfl ?_
    refine e_tabIn (off := 89) (pc := 1) g 90 dX9_passed_1 (by decide) (by decide) (by decide +kernel) (by decide) ?_
    refine e_aload_n (pc := 90) g 0 dX9_passed_90 rfl ?_
    refine e_getR (pc := 91) g 1 fl_X9_12 sh_0 rfl dX9_passed_91 ?_
    refine e_getR (pc := 94) g 22 fl_X9_104 sh_1 rfl dX9_passed_94 ?_
    refine e_iload_n (pc := 97) g 2 dX9_passed_97 rfl ?_
    obtain ⟨r13, M11, f12, h⟩ := h
    refine e_callV (As := [.int a2]) (S := []) (pc := 98) g ok_X6_has ml_X9_132 sh_22 ⟨_, rfl, rfl⟩ f12 (by omega) rfl (Nat.le_of_ble_eq_true rfl) dX9_passed_98 ?_
    refine e_to (S' := [.int r13]) rfl rfl rfl ?_
    refine e_if_eq (pc := 101) g 119 dX9_passed_101 (by decide) (fun c14 => ?_) (fun c14 => ?_)
    · have h := h.1 c14
      refine e_iconst (pc := 119) g (-1) dX9_passed_119 kc_m1 ?_
      exact e_iret (pc := 120) g gr rfl dX9_passed_120 h
    · have h := h.2 c14
      refine e_aload_n (pc := 104) g 0 dX9_passed_104 rfl ?_
      refine e_getR (pc := 105) g 1 fl_X9_12 sh_0 rfl dX9_passed_105 ?_
      refine e_getR (pc := 108) g 26 fl_X9_154 sh_1 rfl dX9_passed_108 ?_
      refine e_getR (pc := 111) g 29 fl_X9_164 sh_26 rfl dX9_passed_111 ?_
      refine e_iload_n (pc := 114) g 2 dX9_passed_114 rfl ?_
      obtain ⟨o15, h⟩ := h
      refine e_iald (pc := 115) g sh_29 o15 dX9_passed_115 ?_
      refine e_goto (pc := 116) g 120 dX9_passed_116 (by decide) ?_
      exact e_iret (pc := 120) g gr rfl dX9_passed_120 h
  have h := hd cs0 cs1 cs2
  refine e_tabOut (pc := 1) g 121 dX9_passed_1 (tab_3 cs0 cs1 cs2) (by decide) ?_
  refine e_iconst (pc := 121) g (-1) dX9_passed_121 kc_m1 ?_
  exact e_iret (pc := 122) g gr rfl dX9_passed_122 h
set_option maxHeartbeats 4000000 in
set_option maxRecDepth 100000 in
theorem b_X9_world_0 {G : GC} {n : Nat} {r : Option Value} {M' : MM} (g : Good G mX9_world n) (gr : GoodR G r M') (hn : 2 ≤ n)    (M : MM) (h : (∃ (r3 : Int32) (M1 : MM), Fn 1 mX8_add [.ref 32] M (some (.int r3)) M1 ∧ (r = some (.int r3) ∧ M' = M1))) : Ev G 0 [(0, .ref 0)] [] M := by
  refine e_aload_n (pc := 0) g 0 dX9_world_0 rfl ?_
  refine e_getR (pc := 1) g 32 fl_X9_19 sh_0 rfl dX9_world_1 ?_
  obtain ⟨r3, M1, f2, h⟩ := h
  refine e_callV (As := []) (S := []) (pc := 4) g ok_X8_add ml_X9_166 sh_32 ⟨_, rfl, rfl⟩ f2 (by omega) rfl (Nat.le_of_ble_eq_true rfl) dX9_world_4 ?_
  refine e_to (S' := [.int r3]) rfl rfl rfl ?_
  exact e_iret (pc := 7) g gr rfl dX9_world_7 h
set_option maxHeartbeats 4000000 in
set_option maxRecDepth 100000 in
theorem b_X9_foretell_0 {G : GC} {n : Nat} {r : Option Value} {M' : MM} (g : Good G mX9_foretell n) (gr : GoodR G r M') (hn : 3 ≤ n) (a1 : Int32) (a2 : Int32) (a3 : Int32)   (M : MM) (h : (∃ (r3 : Int32) (M1 : MM), Fn 1 mX8_has [.ref 32, .int a1] M (some (.int r3)) M1 ∧ ((r3 = (0 : Int32) → (r = some (.int (-1)) ∧ M' = M1)) ∧ (¬ (r3 = (0 : Int32)) → (∃ (r7 : Int32) (M5 : MM), Fn 1 mX9_within [.int a2, .int 0, .int 5] M1 (some (.int r7)) M5 ∧ ((r7 = (0 : Int32) → (r = some (.int (-1)) ∧ M' = M5)) ∧ (¬ (r7 = (0 : Int32)) → (∃ (r11 : Int32) (M9 : MM), Fn 2 mX9_isRain [.int a3] M5 (some (.int r11)) M9 ∧ ((¬ r11 = (0 : Int32) → (vp_in a1 3) ∧ (shp (34 + a1.toNatClampNeg) = (1, 0, 6, [])) ∧ (vp_in a2 6) ∧ (∀ M16 : MM, M16 = ui M9 (34 + a1.toNatClampNeg) a2.toNatClampNeg a3 → (r = some (.int 1) ∧ M' = M16))) ∧ (r11 = (0 : Int32) → (r = some (.int (-1)) ∧ M' = M9))))))))))) : Ev G 0 [(0, .ref 0), (1, .int a1), (2, .int a2), (3, .int a3)] [] M := by
  refine e_aload_n (pc := 0) g 0 dX9_foretell_0 rfl ?_
  refine e_getR (pc := 1) g 32 fl_X9_19 sh_0 rfl dX9_foretell_1 ?_
  refine e_iload_n (pc := 4) g 1 dX9_foretell_4 rfl ?_
  obtain ⟨r3, M1, f2, h⟩ := h
  refine e_callV (As := [.int a1]) (S := []) (pc := 5) g ok_X8_has ml_X9_169 sh_32 ⟨_, rfl, rfl⟩ f2 (by omega) rfl (Nat.le_of_ble_eq_true rfl) dX9_foretell_5 ?_
  refine e_to (S' := [.int r3]) rfl rfl rfl ?_
  refine e_if_eq (pc := 8) g 27 dX9_foretell_8 (by decide) (fun c4 => ?_) (fun c4 => ?_)
  · have h := h.1 c4
    refine e_iconst (pc := 27) g (-1) dX9_foretell_27 kc_m1 ?_
    exact e_iret (pc := 28) g gr rfl dX9_foretell_28 h
  · have h := h.2 c4
    refine e_iload_n (pc := 11) g 2 dX9_foretell_11 rfl ?_
    refine e_iconst (pc := 12) g 0 dX9_foretell_12 kc_0 ?_
    refine e_iconst (pc := 13) g 5 dX9_foretell_13 kc_5 ?_
    obtain ⟨r7, M5, f6, h⟩ := h
    refine e_callS (As := [.int a2, .int 0, .int 5]) (S := []) (pc := 14) g ok_X9_within ml_X9_39 f6 (by omega) rfl (Nat.le_of_ble_eq_true rfl) dX9_foretell_14 ?_
    refine e_to (S' := [.int r7]) rfl rfl rfl ?_
    refine e_if_eq (pc := 17) g 27 dX9_foretell_17 (by decide) (fun c8 => ?_) (fun c8 => ?_)
    · have h := h.1 c8
      refine e_iconst (pc := 27) g (-1) dX9_foretell_27 kc_m1 ?_
      exact e_iret (pc := 28) g gr rfl dX9_foretell_28 h
    · have h := h.2 c8
      refine e_iload_n (pc := 20) g 3 dX9_foretell_20 rfl ?_
      obtain ⟨r11, M9, f10, h⟩ := h
      refine e_callS (As := [.int a3]) (S := []) (pc := 21) g ok_X9_isRain ml_X9_146 f10 (by omega) rfl (Nat.le_of_ble_eq_true rfl) dX9_foretell_21 ?_
      refine e_to (S' := [.int r11]) rfl rfl rfl ?_
      refine e_if_ne (pc := 24) g 29 dX9_foretell_24 (by decide) (fun c12 => ?_) (fun c12 => ?_)
      · have h := h.1 c12
        refine e_aload_n (pc := 29) g 0 dX9_foretell_29 rfl ?_
        refine e_getR (pc := 30) g 32 fl_X9_19 sh_0 rfl dX9_foretell_30 ?_
        refine e_getR (pc := 33) g 33 fl_X9_170 sh_32 rfl dX9_foretell_33 ?_
        refine e_iload_n (pc := 36) g 1 dX9_foretell_36 rfl ?_
        obtain ⟨o13, h⟩ := h
        refine e_aald (pc := 37) g sh_33 o13 dX9_foretell_37 ?_
        obtain ⟨o14, h⟩ := h
        refine e_iload_n (pc := 38) g 2 dX9_foretell_38 rfl ?_
        refine e_iload_n (pc := 39) g 3 dX9_foretell_39 rfl ?_
        obtain ⟨o15, h⟩ := h
        refine e_iast (pc := 40) g o14 o15 dX9_foretell_40 ?_
        obtain ⟨M16, qM16⟩ : ∃ y : MM, y = ui M9 (34 + a1.toNatClampNeg) a2.toNatClampNeg a3 := ⟨_, rfl⟩
        have h := h M16 qM16
        refine e_to (M' := M16) rfl rfl (by rw [qM16]) ?_
        refine e_iconst (pc := 41) g 1 dX9_foretell_41 kc_1 ?_
        exact e_iret (pc := 42) g gr rfl dX9_foretell_42 h
      · have h := h.2 c12
        refine e_iconst (pc := 27) g (-1) dX9_foretell_27 kc_m1 ?_
        exact e_iret (pc := 28) g gr rfl dX9_foretell_28 h
set_option maxHeartbeats 4000000 in
set_option maxRecDepth 100000 in
theorem b_X9_plan_0 {G : GC} {n : Nat} {r : Option Value} {M' : MM} (g : Good G mX9_plan n) (gr : GoodR G r M') (hn : 15 ≤ n) (a1 : Int32)   (M : MM) (h : (∃ (r3 : Int32) (M1 : MM), Fn 2 mX9_isPlanned [.int a1] M (some (.int r3)) M1 ∧ ((¬ r3 = (0 : Int32) → (∃ M5 : MM, Fn 14 mX3_seek [.ref 37, .int a1] M1 none M5 ∧ (r = some (.int (M5.1 37 5)) ∧ M' = M5))) ∧ (r3 = (0 : Int32) → (r = some (.int (-1)) ∧ M' = M1))))) : Ev G 0 [(0, .ref 0), (1, .int a1)] [] M := by
  refine e_iload_n (pc := 0) g 1 dX9_plan_0 rfl ?_
  obtain ⟨r3, M1, f2, h⟩ := h
  refine e_callS (As := [.int a1]) (S := []) (pc := 1) g ok_X9_isPlanned ml_X9_174 f2 (by omega) rfl (Nat.le_of_ble_eq_true rfl) dX9_plan_1 ?_
  refine e_to (S' := [.int r3]) rfl rfl rfl ?_
  refine e_if_ne (pc := 4) g 9 dX9_plan_4 (by decide) (fun c4 => ?_) (fun c4 => ?_)
  · have h := h.1 c4
    refine e_aload_n (pc := 9) g 0 dX9_plan_9 rfl ?_
    refine e_getR (pc := 10) g 37 fl_X9_28 sh_0 rfl dX9_plan_10 ?_
    refine e_iload_n (pc := 13) g 1 dX9_plan_13 rfl ?_
    obtain ⟨M5, f6, h⟩ := h
    refine e_callV (As := [.int a1]) (S := []) (pc := 14) g ok_X3_seek ml_X9_177 sh_37 ⟨_, rfl, rfl⟩ f6 (by omega) rfl (Nat.le_of_ble_eq_true rfl) dX9_plan_14 ?_
    refine e_to (S' := []) rfl rfl rfl ?_
    refine e_aload_n (pc := 17) g 0 dX9_plan_17 rfl ?_
    refine e_getR (pc := 18) g 37 fl_X9_28 sh_0 rfl dX9_plan_18 ?_
    refine e_getI (pc := 21) g fl_X9_181 sh_37 rfl dX9_plan_21 ?_
    exact e_iret (pc := 24) g gr rfl dX9_plan_24 h
  · have h := h.2 c4
    refine e_iconst (pc := 7) g (-1) dX9_plan_7 kc_m1 ?_
    exact e_iret (pc := 8) g gr rfl dX9_plan_8 h
set_option maxHeartbeats 4000000 in
set_option maxRecDepth 100000 in
theorem b_X9_planned_0 {G : GC} {n : Nat} {r : Option Value} {M' : MM} (g : Good G mX9_planned n) (gr : GoodR G r M') (hn : 15 ≤ n) (a1 : Int32) (a2 : Int32)   (M : MM) (h : (∃ (r3 : Int32) (M1 : MM), Fn 2 mX9_isPlanned [.int a1] M (some (.int r3)) M1 ∧ ((r3 = (0 : Int32) → (r = some (.long (-1)) ∧ M' = M1)) ∧ (¬ (r3 = (0 : Int32)) → (∃ (r7 : Int32) (M5 : MM), Fn 1 mX9_within [.int a2, .int 0, .int 1] M1 (some (.int r7)) M5 ∧ ((¬ r7 = (0 : Int32) → (∃ M9 : MM, Fn 14 mX3_seek [.ref 37, .int a1] M5 none M9 ∧ (r = some (.long (if a2 = (0 : Int32) then (M9.2 37 6) else (M9.2 37 7))) ∧ M' = M9))) ∧ (r7 = (0 : Int32) → (r = some (.long (-1)) ∧ M' = M5)))))))) : Ev G 0 [(0, .ref 0), (1, .int a1), (2, .int a2)] [] M := by
  refine e_iload_n (pc := 0) g 1 dX9_planned_0 rfl ?_
  obtain ⟨r3, M1, f2, h⟩ := h
  refine e_callS (As := [.int a1]) (S := []) (pc := 1) g ok_X9_isPlanned ml_X9_174 f2 (by omega) rfl (Nat.le_of_ble_eq_true rfl) dX9_planned_1 ?_
  refine e_to (S' := [.int r3]) rfl rfl rfl ?_
  refine e_if_eq (pc := 4) g 16 dX9_planned_4 (by decide) (fun c4 => ?_) (fun c4 => ?_)
  · have h := h.1 c4
    refine e_ldc2 (pc := 16) g (-1) kl_X9_184 dX9_planned_16 ?_
    exact e_lret (pc := 19) g gr rfl dX9_planned_19 h
  · have h := h.2 c4
    refine e_iload_n (pc := 7) g 2 dX9_planned_7 rfl ?_
    refine e_iconst (pc := 8) g 0 dX9_planned_8 kc_0 ?_
    refine e_iconst (pc := 9) g 1 dX9_planned_9 kc_1 ?_
    obtain ⟨r7, M5, f6, h⟩ := h
    refine e_callS (As := [.int a2, .int 0, .int 1]) (S := []) (pc := 10) g ok_X9_within ml_X9_39 f6 (by omega) rfl (Nat.le_of_ble_eq_true rfl) dX9_planned_10 ?_
    refine e_to (S' := [.int r7]) rfl rfl rfl ?_
    refine e_if_ne (pc := 13) g 20 dX9_planned_13 (by decide) (fun c8 => ?_) (fun c8 => ?_)
    · have h := h.1 c8
      refine e_aload_n (pc := 20) g 0 dX9_planned_20 rfl ?_
      refine e_getR (pc := 21) g 37 fl_X9_28 sh_0 rfl dX9_planned_21 ?_
      refine e_iload_n (pc := 24) g 1 dX9_planned_24 rfl ?_
      obtain ⟨M9, f10, h⟩ := h
      refine e_callV (As := [.int a1]) (S := []) (pc := 25) g ok_X3_seek ml_X9_177 sh_37 ⟨_, rfl, rfl⟩ f10 (by omega) rfl (Nat.le_of_ble_eq_true rfl) dX9_planned_25 ?_
      refine e_to (S' := []) rfl rfl rfl ?_
      refine e_iload_n (pc := 28) g 2 dX9_planned_28 rfl ?_
      have hj : Ev G 49 [(0, .ref 0), (1, .int a1), (2, .int a2)] [.long (if a2 = (0 : Int32) then (M9.2 37 6) else (M9.2 37 7))] M9 := by
        exact e_lret (pc := 49) g gr rfl dX9_planned_49 h
      refine e_if_ne (pc := 29) g 42 dX9_planned_29 (by decide) (fun c11 => ?_) (fun c11 => ?_)
      · rw [if_neg c11] at hj
        refine e_aload_n (pc := 42) g 0 dX9_planned_42 rfl ?_
        refine e_getR (pc := 43) g 37 fl_X9_28 sh_0 rfl dX9_planned_43 ?_
        refine e_getL (pc := 46) g fl_X9_190 sh_37 rfl dX9_planned_46 ?_
        exact hj
      · rw [if_pos c11] at hj
        refine e_aload_n (pc := 32) g 0 dX9_planned_32 rfl ?_
        refine e_getR (pc := 33) g 37 fl_X9_28 sh_0 rfl dX9_planned_33 ?_
        refine e_getL (pc := 36) g fl_X9_186 sh_37 rfl dX9_planned_36 ?_
        refine e_goto (pc := 39) g 49 dX9_planned_39 (by decide) ?_
        exact hj
    · have h := h.2 c8
      refine e_ldc2 (pc := 16) g (-1) kl_X9_184 dX9_planned_16 ?_
      exact e_lret (pc := 19) g gr rfl dX9_planned_19 h
set_option maxHeartbeats 4000000 in
set_option maxRecDepth 100000 in
theorem b_X9_judge_0 {G : GC} {n : Nat} {r : Option Value} {M' : MM} (g : Good G mX9_judge n) (gr : GoodR G r M') (hn : 7 ≤ n) (a1 : Int32) (a2 : Int32) (a3 : Int32)   (M : MM) (h : (∃ (r3 : Int32) (M1 : MM), Fn 2 mX9_isPlanned [.int a1] M (some (.int r3)) M1 ∧ ((r3 = (0 : Int32) → (r = some (.long (-1)) ∧ M' = M1)) ∧ (¬ (r3 = (0 : Int32)) → (∃ (r7 : Int32) (M5 : MM), Fn 3 mX3_isPlan [.ref 37, .int a1, .int a2] M1 (some (.int r7)) M5 ∧ ((¬ r7 = (0 : Int32) → ((a3 = (0 : Int32) → (∃ (r11 : Int32) (M9 : MM), Fn 5 mX3_isWell [.ref 37, .int a1, .int a2] M5 (some (.int r11)) M9 ∧ (r = some (.long (if r11 = (0 : Int32) then 0 else 1)) ∧ M' = M9))) ∧ (a3 = (1 : Int32) → (∃ (r15 : Int64) (M13 : MM), Fn 4 mX3_costOf [.ref 37, .int a1, .int a2] M5 (some (.long r15)) M13 ∧ (r = some (.long r15) ∧ M' = M13))) ∧ (a3 = (2 : Int32) → (∃ (r18 : Int64) (M16 : MM), Fn 6 mX3_breachOf [.ref 37, .int a1, .int a2] M5 (some (.long r18)) M16 ∧ (r = some (.long r18) ∧ M' = M16))) ∧ (¬ a3 = (0 : Int32) → ¬ a3 = (1 : Int32) → ¬ a3 = (2 : Int32) → (r = some (.long (-1)) ∧ M' = M5)))) ∧ (r7 = (0 : Int32) → (r = some (.long (-1)) ∧ M' = M5)))))))) : Ev G 0 [(0, .ref 0), (1, .int a1), (2, .int a2), (3, .int a3)] [] M := by
  refine e_iload_n (pc := 0) g 1 dX9_judge_0 rfl ?_
  obtain ⟨r3, M1, f2, h⟩ := h
  refine e_callS (As := [.int a1]) (S := []) (pc := 1) g ok_X9_isPlanned ml_X9_174 f2 (by omega) rfl (Nat.le_of_ble_eq_true rfl) dX9_judge_1 ?_
  refine e_to (S' := [.int r3]) rfl rfl rfl ?_
  refine e_if_eq (pc := 4) g 19 dX9_judge_4 (by decide) (fun c4 => ?_) (fun c4 => ?_)
  · have h := h.1 c4
    refine e_ldc2 (pc := 19) g (-1) kl_X9_184 dX9_judge_19 ?_
    exact e_lret (pc := 22) g gr rfl dX9_judge_22 h
  · have h := h.2 c4
    refine e_aload_n (pc := 7) g 0 dX9_judge_7 rfl ?_
    refine e_getR (pc := 8) g 37 fl_X9_28 sh_0 rfl dX9_judge_8 ?_
    refine e_iload_n (pc := 11) g 1 dX9_judge_11 rfl ?_
    refine e_iload_n (pc := 12) g 2 dX9_judge_12 rfl ?_
    obtain ⟨r7, M5, f6, h⟩ := h
    refine e_callV (As := [.int a1, .int a2]) (S := []) (pc := 13) g ok_X3_isPlan ml_X9_192 sh_37 ⟨_, rfl, rfl⟩ f6 (by omega) rfl (Nat.le_of_ble_eq_true rfl) dX9_judge_13 ?_
    refine e_to (S' := [.int r7]) rfl rfl rfl ?_
    refine e_if_ne (pc := 16) g 23 dX9_judge_16 (by decide) (fun c8 => ?_) (fun c8 => ?_)
    · have h := h.1 c8
      refine e_iload_n (pc := 23) g 3 dX9_judge_23 rfl ?_
      obtain ⟨h0, h1, h2, hd⟩ := h
      by_cases cs0 : a3 = (0 : Int32)
      · have h := h0 cs0
        refine e_to (S' := [.int 0]) rfl (by rw [cs0]) rfl ?_
        refine e_tabIn (off := 28) (pc := 24) g 52 dX9_judge_24 (by decide) (by decide) (by decide +kernel) (by decide) ?_
        refine e_aload_n (pc := 52) g 0 dX9_judge_52 rfl ?_
        refine e_getR (pc := 53) g 37 fl_X9_28 sh_0 rfl dX9_judge_53 ?_
        refine e_iload_n (pc := 56) g 1 dX9_judge_56 rfl ?_
        refine e_iload_n (pc := 57) g 2 dX9_judge_57 rfl ?_
        obtain ⟨r11, M9, f10, h⟩ := h
        refine e_callV (As := [.int a1, .int a2]) (S := []) (pc := 58) g ok_X3_isWell ml_X9_195 sh_37 ⟨_, rfl, rfl⟩ f10 (by omega) rfl (Nat.le_of_ble_eq_true rfl) dX9_judge_58 ?_
        refine e_to (S' := [.int r11]) rfl rfl rfl ?_
        have hj : Ev G 69 [(0, .ref 0), (1, .int a1), (2, .int a2), (3, .int a3)] [.long (if r11 = (0 : Int32) then 0 else 1)] M9 := by
          exact e_lret (pc := 69) g gr rfl dX9_judge_69 h
        refine e_if_eq (pc := 61) g 68 dX9_judge_61 (by decide) (fun c12 => ?_) (fun c12 => ?_)
        · rw [if_pos c12] at hj
          refine e_lconst (pc := 68) g 0 dX9_judge_68 kl_0 ?_
          exact hj
        · rw [if_neg c12] at hj
          refine e_lconst (pc := 64) g 1 dX9_judge_64 kl_1 ?_
          refine e_goto (pc := 65) g 69 dX9_judge_65 (by decide) ?_
          exact hj
      by_cases cs1 : a3 = (1 : Int32)
      · have h := h1 cs1
        refine e_to (S' := [.int 1]) rfl (by rw [cs1]) rfl ?_
        refine e_tabIn (off := 46) (pc := 24) g 70 dX9_judge_24 (by decide) (by decide) (by decide +kernel) (by decide) ?_
        refine e_aload_n (pc := 70) g 0 dX9_judge_70 rfl ?_
        refine e_getR (pc := 71) g 37 fl_X9_28 sh_0 rfl dX9_judge_71 ?_
        refine e_iload_n (pc := 74) g 1 dX9_judge_74 rfl ?_
        refine e_iload_n (pc := 75) g 2 dX9_judge_75 rfl ?_
        obtain ⟨r15, M13, f14, h⟩ := h
        refine e_callV (As := [.int a1, .int a2]) (S := []) (pc := 76) g ok_X3_costOf ml_X9_198 sh_37 ⟨_, rfl, rfl⟩ f14 (by omega) rfl (Nat.le_of_ble_eq_true rfl) dX9_judge_76 ?_
        refine e_to (S' := [.long r15]) rfl rfl rfl ?_
        exact e_lret (pc := 79) g gr rfl dX9_judge_79 h
      by_cases cs2 : a3 = (2 : Int32)
      · have h := h2 cs2
        refine e_to (S' := [.int 2]) rfl (by rw [cs2]) rfl ?_
        refine e_tabIn (off := 56) (pc := 24) g 80 dX9_judge_24 (by decide) (by decide) (by decide +kernel) (by decide) ?_
        refine e_aload_n (pc := 80) g 0 dX9_judge_80 rfl ?_
        refine e_getR (pc := 81) g 37 fl_X9_28 sh_0 rfl dX9_judge_81 ?_
        refine e_iload_n (pc := 84) g 1 dX9_judge_84 rfl ?_
        refine e_iload_n (pc := 85) g 2 dX9_judge_85 rfl ?_
        obtain ⟨r18, M16, f17, h⟩ := h
        refine e_callV (As := [.int a1, .int a2]) (S := []) (pc := 86) g ok_X3_breachOf ml_X9_202 sh_37 ⟨_, rfl, rfl⟩ f17 (by omega) rfl (Nat.le_of_ble_eq_true rfl) dX9_judge_86 ?_
        refine e_to (S' := [.long r18]) rfl rfl rfl ?_
        exact e_lret (pc := 89) g gr rfl dX9_judge_89 h
      have h := hd cs0 cs1 cs2
      refine e_tabOut (pc := 24) g 90 dX9_judge_24 (tab_3 cs0 cs1 cs2) (by decide) ?_
      refine e_ldc2 (pc := 90) g (-1) kl_X9_184 dX9_judge_90 ?_
      exact e_lret (pc := 93) g gr rfl dX9_judge_93 h
    · have h := h.2 c8
      refine e_ldc2 (pc := 19) g (-1) kl_X9_184 dX9_judge_19 ?_
      exact e_lret (pc := 22) g gr rfl dX9_judge_22 h
/-- at the cut 21 of X9_follow -/
def At_X9_follow_21 (G : GC)  (v1 : Int32) (v2 : Int32) (v3 : Int32)  (M : MM) : Prop := Ev G 21 [(0, .ref 0), (1, .int v1), (2, .int v2), (3, .int v3)] [] M
set_option maxHeartbeats 4000000 in
set_option maxRecDepth 100000 in
theorem b_X9_follow_0 {G : GC} {n : Nat} {r : Option Value} {M' : MM} (g : Good G mX9_follow n) (gr : GoodR G r M') (hn : 15 ≤ n) (a1 : Int32)   (M : MM) (h : (∃ (r3 : Int32) (M1 : MM), Fn 2 mX9_isPlanned [.int a1] M (some (.int r3)) M1 ∧ ((¬ r3 = (0 : Int32) → (∃ M5 : MM, Fn 14 mX3_seek [.ref 37, .int a1] M1 none M5 ∧ At_X9_follow_21 G a1 0 0 M5)) ∧ (r3 = (0 : Int32) → (r = some (.int (-1)) ∧ M' = M1))))) : Ev G 0 [(0, .ref 0), (1, .int a1)] [] M := by
  refine e_iload_n (pc := 0) g 1 dX9_follow_0 rfl ?_
  obtain ⟨r3, M1, f2, h⟩ := h
  refine e_callS (As := [.int a1]) (S := []) (pc := 1) g ok_X9_isPlanned ml_X9_174 f2 (by omega) rfl (Nat.le_of_ble_eq_true rfl) dX9_follow_1 ?_
  refine e_to (S' := [.int r3]) rfl rfl rfl ?_
  refine e_if_ne (pc := 4) g 9 dX9_follow_4 (by decide) (fun c4 => ?_) (fun c4 => ?_)
  · have h := h.1 c4
    refine e_aload_n (pc := 9) g 0 dX9_follow_9 rfl ?_
    refine e_getR (pc := 10) g 37 fl_X9_28 sh_0 rfl dX9_follow_10 ?_
    refine e_iload_n (pc := 13) g 1 dX9_follow_13 rfl ?_
    obtain ⟨M5, f6, h⟩ := h
    refine e_callV (As := [.int a1]) (S := []) (pc := 14) g ok_X3_seek ml_X9_177 sh_37 ⟨_, rfl, rfl⟩ f6 (by omega) rfl (Nat.le_of_ble_eq_true rfl) dX9_follow_14 ?_
    refine e_to (S' := []) rfl rfl rfl ?_
    refine e_iconst (pc := 17) g 0 dX9_follow_17 kc_0 ?_
    refine e_istore_n (pc := 18) g [(0, .ref 0), (1, .int a1), (2, .int 0)] dX9_follow_18 (by decide) rfl ?_
    refine e_iconst (pc := 19) g 0 dX9_follow_19 kc_0 ?_
    refine e_istore_n (pc := 20) g [(0, .ref 0), (1, .int a1), (2, .int 0), (3, .int 0)] dX9_follow_20 (by decide) rfl ?_
    exact h
  · have h := h.2 c4
    refine e_iconst (pc := 7) g (-1) dX9_follow_7 kc_m1 ?_
    exact e_iret (pc := 8) g gr rfl dX9_follow_8 h
set_option maxHeartbeats 4000000 in
set_option maxRecDepth 100000 in
theorem b_X9_follow_21 {G : GC} {n : Nat} {r : Option Value} {M' : MM} (g : Good G mX9_follow n) (gr : GoodR G r M') (hn : 15 ≤ n)  (v1 : Int32) (v2 : Int32) (v3 : Int32)  (M : MM) (h : (∃ (r3 : Int32) (M1 : MM), Fn 2 mX4_inPlans [.ref 15] M (some (.int r3)) M1 ∧ (((r3 : Int32) ≤ v3 → (r = some (.int v2) ∧ M' = M1)) ∧ (¬ ((r3 : Int32) ≤ v3) → (∃ (r7 : Int32) (M5 : MM), Fn 1 mX3_tells [.ref 37, .int (M1.1 37 5), .int 0, .int v3] M1 (some (.int r7)) M5 ∧ (∃ M8 : MM, Fn 2 mX4_put [.ref 15, .int v3, .int r7, .int (M5.1 1 7)] M5 none M8 ∧ (∀ x11 : Int32, x11 = (v2 + (if r7 = (0 : Int32) then 0 else 1)) → (∀ x12 : Int32, x12 = v3 + 1 → At_X9_follow_21 G v1 x11 x12 M8)))))))) : At_X9_follow_21 G v1 v2 v3 M := by
  unfold At_X9_follow_21
  refine e_iload_n (pc := 21) g 3 dX9_follow_21 rfl ?_
  refine e_aload_n (pc := 22) g 0 dX9_follow_22 rfl ?_
  refine e_getR (pc := 23) g 1 fl_X9_12 sh_0 rfl dX9_follow_23 ?_
  refine e_getR (pc := 26) g 15 fl_X9_95 sh_1 rfl dX9_follow_26 ?_
  obtain ⟨r3, M1, f2, h⟩ := h
  refine e_callV (As := []) (S := [.int v3]) (pc := 29) g ok_X4_inPlans ml_X9_205 sh_15 ⟨_, rfl, rfl⟩ f2 (by omega) rfl (Nat.le_of_ble_eq_true rfl) dX9_follow_29 ?_
  refine e_to (S' := [.int r3, .int v3]) rfl rfl rfl ?_
  refine e_icmp_ge (pc := 32) g 92 dX9_follow_32 (by decide) (fun c4 => ?_) (fun c4 => ?_)
  · have h := h.1 c4
    refine e_iload_n (pc := 92) g 2 dX9_follow_92 rfl ?_
    exact e_iret (pc := 93) g gr rfl dX9_follow_93 h
  · have h := h.2 c4
    refine e_aload_n (pc := 35) g 0 dX9_follow_35 rfl ?_
    refine e_getR (pc := 36) g 37 fl_X9_28 sh_0 rfl dX9_follow_36 ?_
    refine e_aload_n (pc := 39) g 0 dX9_follow_39 rfl ?_
    refine e_getR (pc := 40) g 37 fl_X9_28 sh_0 rfl dX9_follow_40 ?_
    refine e_getI (pc := 43) g fl_X9_181 sh_37 rfl dX9_follow_43 ?_
    refine e_iconst (pc := 46) g 0 dX9_follow_46 kc_0 ?_
    refine e_iload_n (pc := 47) g 3 dX9_follow_47 rfl ?_
    obtain ⟨r7, M5, f6, h⟩ := h
    refine e_callV (As := [.int (M1.1 37 5), .int 0, .int v3]) (S := []) (pc := 48) g ok_X3_tells ml_X9_208 sh_37 ⟨_, rfl, rfl⟩ f6 (by omega) rfl (Nat.le_of_ble_eq_true rfl) dX9_follow_48 ?_
    refine e_to (S' := [.int r7]) rfl rfl rfl ?_
    refine e_istore (pc := 51) g [(0, .ref 0), (1, .int v1), (2, .int v2), (3, .int v3), (4, .int r7)] dX9_follow_51 (by decide) rfl ?_
    refine e_aload_n (pc := 53) g 0 dX9_follow_53 rfl ?_
    refine e_getR (pc := 54) g 1 fl_X9_12 sh_0 rfl dX9_follow_54 ?_
    refine e_getR (pc := 57) g 15 fl_X9_95 sh_1 rfl dX9_follow_57 ?_
    refine e_iload_n (pc := 60) g 3 dX9_follow_60 rfl ?_
    refine e_iload (pc := 61) g 4 dX9_follow_61 rfl ?_
    refine e_aload_n (pc := 63) g 0 dX9_follow_63 rfl ?_
    refine e_getR (pc := 64) g 1 fl_X9_12 sh_0 rfl dX9_follow_64 ?_
    refine e_getI (pc := 67) g fl_X9_114 sh_1 rfl dX9_follow_67 ?_
    obtain ⟨M8, f9, h⟩ := h
    refine e_callV (As := [.int v3, .int r7, .int (M5.1 1 7)]) (S := []) (pc := 70) g ok_X4_put ml_X9_128 sh_15 ⟨_, rfl, rfl⟩ f9 (by omega) rfl (Nat.le_of_ble_eq_true rfl) dX9_follow_70 ?_
    refine e_to (S' := []) rfl rfl rfl ?_
    refine e_iload_n (pc := 73) g 2 dX9_follow_73 rfl ?_
    refine e_iload (pc := 74) g 4 dX9_follow_74 rfl ?_
    have hj : Ev G 84 [(0, .ref 0), (1, .int v1), (2, .int v2), (3, .int v3), (4, .int r7)] [.int (if r7 = (0 : Int32) then 0 else 1), .int v2] M8 := by
      refine e_iadd (pc := 84) g dX9_follow_84 ?_
      obtain ⟨x11, qx11⟩ : ∃ y : Int32, y = (v2 + (if r7 = (0 : Int32) then 0 else 1)) := ⟨_, rfl⟩
      have h := h x11 qx11
      refine e_to (S' := [.int x11]) rfl (by rw [qx11]) rfl ?_
      refine e_istore_n (pc := 85) g [(0, .ref 0), (1, .int v1), (2, .int x11), (3, .int v3), (4, .int r7)] dX9_follow_85 (by decide) rfl ?_
      obtain ⟨x12, qx12⟩ : ∃ y : Int32, y = v3 + 1 := ⟨_, rfl⟩
      have h := h x12 qx12
      refine e_iinc (pc := 86) g 3 x12 [(0, .ref 0), (1, .int v1), (2, .int x11), (3, .int x12), (4, .int r7)] dX9_follow_86 rfl (by rw [qx12]; rfl) (by decide) rfl ?_
      refine e_goto (pc := 89) g 21 dX9_follow_89 (by decide) ?_
      refine e_sub [(0, .ref 0), (1, .int v1), (2, .int x11), (3, .int x12)] [0, 1, 2, 3] rfl ?_
      exact h
    refine e_if_eq (pc := 76) g 83 dX9_follow_76 (by decide) (fun c10 => ?_) (fun c10 => ?_)
    · rw [if_pos c10] at hj
      refine e_iconst (pc := 83) g 0 dX9_follow_83 kc_0 ?_
      exact hj
    · rw [if_neg c10] at hj
      refine e_iconst (pc := 79) g 1 dX9_follow_79 kc_1 ?_
      refine e_goto (pc := 80) g 84 dX9_follow_80 (by decide) ?_
      exact hj
set_option maxHeartbeats 4000000 in
set_option maxRecDepth 100000 in
theorem b_X9_sheet_0 {G : GC} {n : Nat} {r : Option Value} {M' : MM} (g : Good G mX9_sheet n) (gr : GoodR G r M') (hn : 3 ≤ n) (a1 : Int32) (a2 : Int32) (a3 : Int32)   (M : MM) (h : (∃ (r3 : Int32) (M1 : MM), Fn 2 mX9_isSheet [.int a1] M (some (.int r3)) M1 ∧ ((r3 = (0 : Int32) → (r = some (.int (-1)) ∧ M' = M1)) ∧ (¬ (r3 = (0 : Int32)) → (∃ (r7 : Int32) (M5 : MM), Fn 2 mX9_isLane [.int a2] M1 (some (.int r7)) M5 ∧ ((r7 = (0 : Int32) → (r = some (.int (-1)) ∧ M' = M5)) ∧ (¬ (r7 = (0 : Int32)) → ((a3 ≤ (60 : Int32) → (((0 : Int32) ≤ a3 → (∃ M11 : MM, Fn 2 mX5_clear [.ref 64, .int a1, .int a2, .int a3] M5 none M11 ∧ (r = some (.int 1) ∧ M' = M11))) ∧ (¬ ((0 : Int32) ≤ a3) → (r = some (.int (-14)) ∧ M' = M5)))) ∧ (¬ (a3 ≤ (60 : Int32)) → (r = some (.int (-1)) ∧ M' = M5)))))))))) : Ev G 0 [(0, .ref 0), (1, .int a1), (2, .int a2), (3, .int a3)] [] M := by
  refine e_iload_n (pc := 0) g 1 dX9_sheet_0 rfl ?_
  obtain ⟨r3, M1, f2, h⟩ := h
  refine e_callS (As := [.int a1]) (S := []) (pc := 1) g ok_X9_isSheet ml_X9_211 f2 (by omega) rfl (Nat.le_of_ble_eq_true rfl) dX9_sheet_1 ?_
  refine e_to (S' := [.int r3]) rfl rfl rfl ?_
  refine e_if_eq (pc := 4) g 20 dX9_sheet_4 (by decide) (fun c4 => ?_) (fun c4 => ?_)
  · have h := h.1 c4
    refine e_iconst (pc := 20) g (-1) dX9_sheet_20 kc_m1 ?_
    exact e_iret (pc := 21) g gr rfl dX9_sheet_21 h
  · have h := h.2 c4
    refine e_iload_n (pc := 7) g 2 dX9_sheet_7 rfl ?_
    obtain ⟨r7, M5, f6, h⟩ := h
    refine e_callS (As := [.int a2]) (S := []) (pc := 8) g ok_X9_isLane ml_X9_214 f6 (by omega) rfl (Nat.le_of_ble_eq_true rfl) dX9_sheet_8 ?_
    refine e_to (S' := [.int r7]) rfl rfl rfl ?_
    refine e_if_eq (pc := 11) g 20 dX9_sheet_11 (by decide) (fun c8 => ?_) (fun c8 => ?_)
    · have h := h.1 c8
      refine e_iconst (pc := 20) g (-1) dX9_sheet_20 kc_m1 ?_
      exact e_iret (pc := 21) g gr rfl dX9_sheet_21 h
    · have h := h.2 c8
      refine e_iload_n (pc := 14) g 3 dX9_sheet_14 rfl ?_
      refine e_bipush (pc := 15) g 60 dX9_sheet_15 kb_60 ?_
      refine e_icmp_le (pc := 17) g 22 dX9_sheet_17 (by decide) (fun c9 => ?_) (fun c9 => ?_)
      · have h := h.1 c9
        refine e_iload_n (pc := 22) g 3 dX9_sheet_22 rfl ?_
        refine e_if_ge (pc := 23) g 29 dX9_sheet_23 (by decide) (fun c10 => ?_) (fun c10 => ?_)
        · have h := h.1 c10
          refine e_aload_n (pc := 29) g 0 dX9_sheet_29 rfl ?_
          refine e_getR (pc := 30) g 64 fl_X9_35 sh_0 rfl dX9_sheet_30 ?_
          refine e_iload_n (pc := 33) g 1 dX9_sheet_33 rfl ?_
          refine e_iload_n (pc := 34) g 2 dX9_sheet_34 rfl ?_
          refine e_iload_n (pc := 35) g 3 dX9_sheet_35 rfl ?_
          obtain ⟨M11, f12, h⟩ := h
          refine e_callV (As := [.int a1, .int a2, .int a3]) (S := []) (pc := 36) g ok_X5_clear ml_X9_217 sh_64 ⟨_, rfl, rfl⟩ f12 (by omega) rfl (Nat.le_of_ble_eq_true rfl) dX9_sheet_36 ?_
          refine e_to (S' := []) rfl rfl rfl ?_
          refine e_iconst (pc := 39) g 1 dX9_sheet_39 kc_1 ?_
          exact e_iret (pc := 40) g gr rfl dX9_sheet_40 h
        · have h := h.2 c10
          refine e_bipush (pc := 26) g (-14) dX9_sheet_26 kb_m14 ?_
          exact e_iret (pc := 28) g gr rfl dX9_sheet_28 h
      · have h := h.2 c9
        refine e_iconst (pc := 20) g (-1) dX9_sheet_20 kc_m1 ?_
        exact e_iret (pc := 21) g gr rfl dX9_sheet_21 h
set_option maxHeartbeats 4000000 in
set_option maxRecDepth 100000 in
theorem b_X9_lay_0 {G : GC} {n : Nat} {r : Option Value} {M' : MM} (g : Good G mX9_lay n) (gr : GoodR G r M') (hn : 3 ≤ n) (a1 : Int32) (a2 : Int32) (a3 : Int32)   (M : MM) (h : (∃ (r3 : Int32) (M1 : MM), Fn 2 mX9_isSheet [.int a1] M (some (.int r3)) M1 ∧ ((¬ r3 = (0 : Int32) → (∃ (r7 : Int32) (M5 : MM), Fn 1 mX5_isNothing [.ref 64, .int a1] M1 (some (.int r7)) M5 ∧ ((r7 = (0 : Int32) → (∃ (r11 : Int32) (M9 : MM), Fn 1 mX5_hasCell [.ref 64, .int a1, .int a2] M5 (some (.int r11)) M9 ∧ ((¬ r11 = (0 : Int32) → (∃ M13 : MM, Fn 1 mX5_put [.ref 64, .int a1, .int a2, .int a3] M9 none M13 ∧ (r = some (.int 1) ∧ M' = M13))) ∧ (r11 = (0 : Int32) → (r = some (.int (-12)) ∧ M' = M9))))) ∧ (¬ (r7 = (0 : Int32)) → (r = some (.int (-11)) ∧ M' = M5))))) ∧ (r3 = (0 : Int32) → (r = some (.int (-1)) ∧ M' = M1))))) : Ev G 0 [(0, .ref 0), (1, .int a1), (2, .int a2), (3, .int a3)] [] M := by
  refine e_iload_n (pc := 0) g 1 dX9_lay_0 rfl ?_
  obtain ⟨r3, M1, f2, h⟩ := h
  refine e_callS (As := [.int a1]) (S := []) (pc := 1) g ok_X9_isSheet ml_X9_211 f2 (by omega) rfl (Nat.le_of_ble_eq_true rfl) dX9_lay_1 ?_
  refine e_to (S' := [.int r3]) rfl rfl rfl ?_
  refine e_if_ne (pc := 4) g 9 dX9_lay_4 (by decide) (fun c4 => ?_) (fun c4 => ?_)
  · have h := h.1 c4
    refine e_aload_n (pc := 9) g 0 dX9_lay_9 rfl ?_
    refine e_getR (pc := 10) g 64 fl_X9_35 sh_0 rfl dX9_lay_10 ?_
    refine e_iload_n (pc := 13) g 1 dX9_lay_13 rfl ?_
    obtain ⟨r7, M5, f6, h⟩ := h
    refine e_callV (As := [.int a1]) (S := []) (pc := 14) g ok_X5_isNothing ml_X9_221 sh_64 ⟨_, rfl, rfl⟩ f6 (by omega) rfl (Nat.le_of_ble_eq_true rfl) dX9_lay_14 ?_
    refine e_to (S' := [.int r7]) rfl rfl rfl ?_
    refine e_if_eq (pc := 17) g 23 dX9_lay_17 (by decide) (fun c8 => ?_) (fun c8 => ?_)
    · have h := h.1 c8
      refine e_aload_n (pc := 23) g 0 dX9_lay_23 rfl ?_
      refine e_getR (pc := 24) g 64 fl_X9_35 sh_0 rfl dX9_lay_24 ?_
      refine e_iload_n (pc := 27) g 1 dX9_lay_27 rfl ?_
      refine e_iload_n (pc := 28) g 2 dX9_lay_28 rfl ?_
      obtain ⟨r11, M9, f10, h⟩ := h
      refine e_callV (As := [.int a1, .int a2]) (S := []) (pc := 29) g ok_X5_hasCell ml_X9_224 sh_64 ⟨_, rfl, rfl⟩ f10 (by omega) rfl (Nat.le_of_ble_eq_true rfl) dX9_lay_29 ?_
      refine e_to (S' := [.int r11]) rfl rfl rfl ?_
      refine e_if_ne (pc := 32) g 38 dX9_lay_32 (by decide) (fun c12 => ?_) (fun c12 => ?_)
      · have h := h.1 c12
        refine e_aload_n (pc := 38) g 0 dX9_lay_38 rfl ?_
        refine e_getR (pc := 39) g 64 fl_X9_35 sh_0 rfl dX9_lay_39 ?_
        refine e_iload_n (pc := 42) g 1 dX9_lay_42 rfl ?_
        refine e_iload_n (pc := 43) g 2 dX9_lay_43 rfl ?_
        refine e_iload_n (pc := 44) g 3 dX9_lay_44 rfl ?_
        obtain ⟨M13, f14, h⟩ := h
        refine e_callV (As := [.int a1, .int a2, .int a3]) (S := []) (pc := 45) g ok_X5_put ml_X9_227 sh_64 ⟨_, rfl, rfl⟩ f14 (by omega) rfl (Nat.le_of_ble_eq_true rfl) dX9_lay_45 ?_
        refine e_to (S' := []) rfl rfl rfl ?_
        refine e_iconst (pc := 48) g 1 dX9_lay_48 kc_1 ?_
        exact e_iret (pc := 49) g gr rfl dX9_lay_49 h
      · have h := h.2 c12
        refine e_bipush (pc := 35) g (-12) dX9_lay_35 kb_m12 ?_
        exact e_iret (pc := 37) g gr rfl dX9_lay_37 h
    · have h := h.2 c8
      refine e_bipush (pc := 20) g (-11) dX9_lay_20 kb_m11 ?_
      exact e_iret (pc := 22) g gr rfl dX9_lay_22 h
  · have h := h.2 c4
    refine e_iconst (pc := 7) g (-1) dX9_lay_7 kc_m1 ?_
    exact e_iret (pc := 8) g gr rfl dX9_lay_8 h
/-- at the cut 55 of X9_rain -/
def At_X9_rain_55 (G : GC)  (v1 : Int32) (v2 : Int32) (v3 : Int32) (v4 : Int32) (v5 : Int32) (v6 : Int32) (v7 : Int32)  (M : MM) : Prop := Ev G 55 [(0, .ref 0), (1, .int v1), (2, .int v2), (3, .int v3), (4, .int v4), (5, .int v5), (6, .int v6), (7, .int v7)] [] M
set_option maxHeartbeats 4000000 in
set_option maxRecDepth 100000 in
theorem b_X9_rain_0 {G : GC} {n : Nat} {r : Option Value} {M' : MM} (g : Good G mX9_rain n) (gr : GoodR G r M') (hn : 6 ≤ n) (a1 : Int32) (a2 : Int32) (a3 : Int32) (a4 : Int32)   (M : MM) (h : (∃ (r3 : Int32) (M1 : MM), Fn 2 mX9_isSheet [.int a1] M (some (.int r3)) M1 ∧ ((r3 = (0 : Int32) → (r = some (.int (-1)) ∧ M' = M1)) ∧ (¬ (r3 = (0 : Int32)) → (∃ (r7 : Int32) (M5 : MM), Fn 2 mX9_isLane [.int a2] M1 (some (.int r7)) M5 ∧ ((r7 = (0 : Int32) → (r = some (.int (-1)) ∧ M' = M5)) ∧ (¬ (r7 = (0 : Int32)) → (∃ (r11 : Int32) (M9 : MM), Fn 1 mX9_within [.int a4, .int 0, .int 24] M5 (some (.int r11)) M9 ∧ ((¬ r11 = (0 : Int32) → (∃ (r15 : Int32) (M13 : MM), Fn 2 mX5_faultAs [.ref 64, .int a1, .int a2] M9 (some (.int r15)) M13 ∧ ((r15 = (0 : Int32) → At_X9_rain_55 G a1 a2 a3 a4 r15 0 0 M13) ∧ (¬ (r15 = (0 : Int32)) → (r = some (.int ((-10) - r15)) ∧ M' = M13))))) ∧ (r11 = (0 : Int32) → (r = some (.int (-1)) ∧ M' = M9))))))))))) : Ev G 0 [(0, .ref 0), (1, .int a1), (2, .int a2), (3, .int a3), (4, .int a4)] [] M := by
  refine e_iload_n (pc := 0) g 1 dX9_rain_0 rfl ?_
  obtain ⟨r3, M1, f2, h⟩ := h
  refine e_callS (As := [.int a1]) (S := []) (pc := 1) g ok_X9_isSheet ml_X9_211 f2 (by omega) rfl (Nat.le_of_ble_eq_true rfl) dX9_rain_1 ?_
  refine e_to (S' := [.int r3]) rfl rfl rfl ?_
  refine e_if_eq (pc := 4) g 25 dX9_rain_4 (by decide) (fun c4 => ?_) (fun c4 => ?_)
  · have h := h.1 c4
    refine e_iconst (pc := 25) g (-1) dX9_rain_25 kc_m1 ?_
    exact e_iret (pc := 26) g gr rfl dX9_rain_26 h
  · have h := h.2 c4
    refine e_iload_n (pc := 7) g 2 dX9_rain_7 rfl ?_
    obtain ⟨r7, M5, f6, h⟩ := h
    refine e_callS (As := [.int a2]) (S := []) (pc := 8) g ok_X9_isLane ml_X9_214 f6 (by omega) rfl (Nat.le_of_ble_eq_true rfl) dX9_rain_8 ?_
    refine e_to (S' := [.int r7]) rfl rfl rfl ?_
    refine e_if_eq (pc := 11) g 25 dX9_rain_11 (by decide) (fun c8 => ?_) (fun c8 => ?_)
    · have h := h.1 c8
      refine e_iconst (pc := 25) g (-1) dX9_rain_25 kc_m1 ?_
      exact e_iret (pc := 26) g gr rfl dX9_rain_26 h
    · have h := h.2 c8
      refine e_iload (pc := 14) g 4 dX9_rain_14 rfl ?_
      refine e_iconst (pc := 16) g 0 dX9_rain_16 kc_0 ?_
      refine e_bipush (pc := 17) g 24 dX9_rain_17 kb_24 ?_
      obtain ⟨r11, M9, f10, h⟩ := h
      refine e_callS (As := [.int a4, .int 0, .int 24]) (S := []) (pc := 19) g ok_X9_within ml_X9_39 f10 (by omega) rfl (Nat.le_of_ble_eq_true rfl) dX9_rain_19 ?_
      refine e_to (S' := [.int r11]) rfl rfl rfl ?_
      refine e_if_ne (pc := 22) g 27 dX9_rain_22 (by decide) (fun c12 => ?_) (fun c12 => ?_)
      · have h := h.1 c12
        refine e_aload_n (pc := 27) g 0 dX9_rain_27 rfl ?_
        refine e_getR (pc := 28) g 64 fl_X9_35 sh_0 rfl dX9_rain_28 ?_
        refine e_iload_n (pc := 31) g 1 dX9_rain_31 rfl ?_
        refine e_iload_n (pc := 32) g 2 dX9_rain_32 rfl ?_
        obtain ⟨r15, M13, f14, h⟩ := h
        refine e_callV (As := [.int a1, .int a2]) (S := []) (pc := 33) g ok_X5_faultAs ml_X9_229 sh_64 ⟨_, rfl, rfl⟩ f14 (by omega) rfl (Nat.le_of_ble_eq_true rfl) dX9_rain_33 ?_
        refine e_to (S' := [.int r15]) rfl rfl rfl ?_
        refine e_istore (pc := 36) g [(0, .ref 0), (1, .int a1), (2, .int a2), (3, .int a3), (4, .int a4), (5, .int r15)] dX9_rain_36 (by decide) rfl ?_
        refine e_iload (pc := 38) g 5 dX9_rain_38 rfl ?_
        refine e_if_eq (pc := 40) g 49 dX9_rain_40 (by decide) (fun c16 => ?_) (fun c16 => ?_)
        · have h := h.1 c16
          refine e_iconst (pc := 49) g 0 dX9_rain_49 kc_0 ?_
          refine e_istore (pc := 50) g [(0, .ref 0), (1, .int a1), (2, .int a2), (3, .int a3), (4, .int a4), (5, .int r15), (6, .int 0)] dX9_rain_50 (by decide) rfl ?_
          refine e_iconst (pc := 52) g 0 dX9_rain_52 kc_0 ?_
          refine e_istore (pc := 53) g [(0, .ref 0), (1, .int a1), (2, .int a2), (3, .int a3), (4, .int a4), (5, .int r15), (6, .int 0), (7, .int 0)] dX9_rain_53 (by decide) rfl ?_
          exact h
        · have h := h.2 c16
          refine e_bipush (pc := 43) g (-10) dX9_rain_43 kb_m10 ?_
          refine e_iload (pc := 45) g 5 dX9_rain_45 rfl ?_
          refine e_isub (pc := 47) g dX9_rain_47 ?_
          exact e_iret (pc := 48) g gr rfl dX9_rain_48 h
      · have h := h.2 c12
        refine e_iconst (pc := 25) g (-1) dX9_rain_25 kc_m1 ?_
        exact e_iret (pc := 26) g gr rfl dX9_rain_26 h
set_option maxHeartbeats 4000000 in
set_option maxRecDepth 100000 in
theorem b_X9_rain_55 {G : GC} {n : Nat} {r : Option Value} {M' : MM} (g : Good G mX9_rain n) (gr : GoodR G r M') (hn : 6 ≤ n)  (v1 : Int32) (v2 : Int32) (v3 : Int32) (v4 : Int32) (v5 : Int32) (v6 : Int32) (v7 : Int32)  (M : MM) (h : (((v4 : Int32) ≤ v7 → (r = some (.int v6) ∧ M' = M)) ∧ (¬ ((v4 : Int32) ≤ v7) → (∃ (r4 : Int32) (M2 : MM), Fn 1 mX5_hasCell [.ref 64, .int v1, .int (v3 + v7)] M (some (.int r4)) M2 ∧ ((¬ r4 = (0 : Int32) → (vp_in v1 4) ∧ (shp (66 + v1.toNatClampNeg) = (1, 0, 60, [])) ∧ (vp_in (v3 + v7) 60) ∧ (∀ x9 : Int32, x9 = (M2.1 (66 + v1.toNatClampNeg) (v3 + v7).toNatClampNeg) → (∃ (r12 : Int32) (M10 : MM), Fn 2 mX9_isRain [.int x9] M2 (some (.int r12)) M10 ∧ ((¬ r12 = (0 : Int32) → (∃ (r16 : Int32) (M14 : MM), Fn 5 mX2_advance [.ref 1, .int x9] M10 (some (.int r16)) M14 ∧ (∀ x17 : Int32, x17 = v7 + 1 → At_X9_rain_55 G v1 v2 v3 v4 v5 r16 x17 M14))) ∧ (r12 = (0 : Int32) → (r = some (.int ((-20) - v7)) ∧ M' = M10)))))) ∧ (r4 = (0 : Int32) → (r = some (.int (-12)) ∧ M' = M2))))))) : At_X9_rain_55 G v1 v2 v3 v4 v5 v6 v7 M := by
  unfold At_X9_rain_55
  refine e_iload (pc := 55) g 7 dX9_rain_55 rfl ?_
  refine e_iload (pc := 57) g 4 dX9_rain_57 rfl ?_
  refine e_icmp_ge (pc := 59) g 127 dX9_rain_59 (by decide) (fun c1 => ?_) (fun c1 => ?_)
  · have h := h.1 c1
    refine e_iload (pc := 127) g 6 dX9_rain_127 rfl ?_
    exact e_iret (pc := 129) g gr rfl dX9_rain_129 h
  · have h := h.2 c1
    refine e_aload_n (pc := 62) g 0 dX9_rain_62 rfl ?_
    refine e_getR (pc := 63) g 64 fl_X9_35 sh_0 rfl dX9_rain_63 ?_
    refine e_iload_n (pc := 66) g 1 dX9_rain_66 rfl ?_
    refine e_iload_n (pc := 67) g 3 dX9_rain_67 rfl ?_
    refine e_iload (pc := 68) g 7 dX9_rain_68 rfl ?_
    refine e_iadd (pc := 70) g dX9_rain_70 ?_
    obtain ⟨r4, M2, f3, h⟩ := h
    refine e_callV (As := [.int v1, .int (v3 + v7)]) (S := []) (pc := 71) g ok_X5_hasCell ml_X9_224 sh_64 ⟨_, rfl, rfl⟩ f3 (by omega) rfl (Nat.le_of_ble_eq_true rfl) dX9_rain_71 ?_
    refine e_to (S' := [.int r4]) rfl rfl rfl ?_
    refine e_if_ne (pc := 74) g 80 dX9_rain_74 (by decide) (fun c5 => ?_) (fun c5 => ?_)
    · have h := h.1 c5
      refine e_aload_n (pc := 80) g 0 dX9_rain_80 rfl ?_
      refine e_getR (pc := 81) g 64 fl_X9_35 sh_0 rfl dX9_rain_81 ?_
      refine e_getR (pc := 84) g 65 fl_X9_232 sh_64 rfl dX9_rain_84 ?_
      refine e_iload_n (pc := 87) g 1 dX9_rain_87 rfl ?_
      obtain ⟨o6, h⟩ := h
      refine e_aald (pc := 88) g sh_65 o6 dX9_rain_88 ?_
      obtain ⟨o7, h⟩ := h
      refine e_iload_n (pc := 89) g 3 dX9_rain_89 rfl ?_
      refine e_iload (pc := 90) g 7 dX9_rain_90 rfl ?_
      refine e_iadd (pc := 92) g dX9_rain_92 ?_
      obtain ⟨o8, h⟩ := h
      refine e_iald (pc := 93) g o7 o8 dX9_rain_93 ?_
      obtain ⟨x9, qx9⟩ : ∃ y : Int32, y = (M2.1 (66 + v1.toNatClampNeg) (v3 + v7).toNatClampNeg) := ⟨_, rfl⟩
      have h := h x9 qx9
      refine e_to (S' := [.int x9]) rfl (by rw [qx9]) rfl ?_
      refine e_istore (pc := 94) g [(0, .ref 0), (1, .int v1), (2, .int v2), (3, .int v3), (4, .int v4), (5, .int v5), (6, .int v6), (7, .int v7), (8, .int x9)] dX9_rain_94 (by decide) rfl ?_
      refine e_iload (pc := 96) g 8 dX9_rain_96 rfl ?_
      obtain ⟨r12, M10, f11, h⟩ := h
      refine e_callS (As := [.int x9]) (S := []) (pc := 98) g ok_X9_isRain ml_X9_146 f11 (by omega) rfl (Nat.le_of_ble_eq_true rfl) dX9_rain_98 ?_
      refine e_to (S' := [.int r12]) rfl rfl rfl ?_
      refine e_if_ne (pc := 101) g 110 dX9_rain_101 (by decide) (fun c13 => ?_) (fun c13 => ?_)
      · have h := h.1 c13
        refine e_aload_n (pc := 110) g 0 dX9_rain_110 rfl ?_
        refine e_getR (pc := 111) g 1 fl_X9_12 sh_0 rfl dX9_rain_111 ?_
        refine e_iload (pc := 114) g 8 dX9_rain_114 rfl ?_
        obtain ⟨r16, M14, f15, h⟩ := h
        refine e_callV (As := [.int x9]) (S := []) (pc := 116) g ok_X2_advance ml_X9_149 sh_1 ⟨_, rfl, rfl⟩ f15 (by omega) rfl (Nat.le_of_ble_eq_true rfl) dX9_rain_116 ?_
        refine e_to (S' := [.int r16]) rfl rfl rfl ?_
        refine e_istore (pc := 119) g [(0, .ref 0), (1, .int v1), (2, .int v2), (3, .int v3), (4, .int v4), (5, .int v5), (6, .int r16), (7, .int v7), (8, .int x9)] dX9_rain_119 (by decide) rfl ?_
        obtain ⟨x17, qx17⟩ : ∃ y : Int32, y = v7 + 1 := ⟨_, rfl⟩
        have h := h x17 qx17
        refine e_iinc (pc := 121) g 7 x17 [(0, .ref 0), (1, .int v1), (2, .int v2), (3, .int v3), (4, .int v4), (5, .int v5), (6, .int r16), (7, .int x17), (8, .int x9)] dX9_rain_121 rfl (by rw [qx17]; rfl) (by decide) rfl ?_
        refine e_goto (pc := 124) g 55 dX9_rain_124 (by decide) ?_
        refine e_sub [(0, .ref 0), (1, .int v1), (2, .int v2), (3, .int v3), (4, .int v4), (5, .int v5), (6, .int r16), (7, .int x17)] [0, 1, 2, 3, 4, 5, 6, 7] rfl ?_
        exact h
      · have h := h.2 c13
        refine e_bipush (pc := 104) g (-20) dX9_rain_104 kb_m20 ?_
        refine e_iload (pc := 106) g 7 dX9_rain_106 rfl ?_
        refine e_isub (pc := 108) g dX9_rain_108 ?_
        exact e_iret (pc := 109) g gr rfl dX9_rain_109 h
    · have h := h.2 c5
      refine e_bipush (pc := 77) g (-12) dX9_rain_77 kb_m12 ?_
      exact e_iret (pc := 79) g gr rfl dX9_rain_79 h
/-- at the cut 41 of X9_tides -/
def At_X9_tides_41 (G : GC)  (v1 : Int32) (v2 : Int32) (v3 : Int32) (v4 : Int32) (v5 : Int32)  (M : MM) : Prop := Ev G 41 [(0, .ref 0), (1, .int v1), (2, .int v2), (3, .int v3), (4, .int v4), (5, .int v5)] [] M
set_option maxHeartbeats 4000000 in
set_option maxRecDepth 100000 in
theorem b_X9_tides_0 {G : GC} {n : Nat} {r : Option Value} {M' : MM} (g : Good G mX9_tides n) (gr : GoodR G r M') (hn : 3 ≤ n) (a1 : Int32) (a2 : Int32) (a3 : Int32)   (M : MM) (h : (∃ (r3 : Int32) (M1 : MM), Fn 2 mX9_isSheet [.int a1] M (some (.int r3)) M1 ∧ ((r3 = (0 : Int32) → (r = some (.int (-1)) ∧ M' = M1)) ∧ (¬ (r3 = (0 : Int32)) → (∃ (r7 : Int32) (M5 : MM), Fn 2 mX9_isLane [.int a2] M1 (some (.int r7)) M5 ∧ ((¬ r7 = (0 : Int32) → (∃ (r11 : Int32) (M9 : MM), Fn 2 mX5_faultAs [.ref 64, .int a1, .int a2] M5 (some (.int r11)) M9 ∧ ((r11 = (0 : Int32) → At_X9_tides_41 G a1 a2 a3 r11 0 M9) ∧ (¬ (r11 = (0 : Int32)) → (r = some (.int ((-10) - r11)) ∧ M' = M9))))) ∧ (r7 = (0 : Int32) → (r = some (.int (-1)) ∧ M' = M5)))))))) : Ev G 0 [(0, .ref 0), (1, .int a1), (2, .int a2), (3, .int a3)] [] M := by
  refine e_iload_n (pc := 0) g 1 dX9_tides_0 rfl ?_
  obtain ⟨r3, M1, f2, h⟩ := h
  refine e_callS (As := [.int a1]) (S := []) (pc := 1) g ok_X9_isSheet ml_X9_211 f2 (by omega) rfl (Nat.le_of_ble_eq_true rfl) dX9_tides_1 ?_
  refine e_to (S' := [.int r3]) rfl rfl rfl ?_
  refine e_if_eq (pc := 4) g 14 dX9_tides_4 (by decide) (fun c4 => ?_) (fun c4 => ?_)
  · have h := h.1 c4
    refine e_iconst (pc := 14) g (-1) dX9_tides_14 kc_m1 ?_
    exact e_iret (pc := 15) g gr rfl dX9_tides_15 h
  · have h := h.2 c4
    refine e_iload_n (pc := 7) g 2 dX9_tides_7 rfl ?_
    obtain ⟨r7, M5, f6, h⟩ := h
    refine e_callS (As := [.int a2]) (S := []) (pc := 8) g ok_X9_isLane ml_X9_214 f6 (by omega) rfl (Nat.le_of_ble_eq_true rfl) dX9_tides_8 ?_
    refine e_to (S' := [.int r7]) rfl rfl rfl ?_
    refine e_if_ne (pc := 11) g 16 dX9_tides_11 (by decide) (fun c8 => ?_) (fun c8 => ?_)
    · have h := h.1 c8
      refine e_aload_n (pc := 16) g 0 dX9_tides_16 rfl ?_
      refine e_getR (pc := 17) g 64 fl_X9_35 sh_0 rfl dX9_tides_17 ?_
      refine e_iload_n (pc := 20) g 1 dX9_tides_20 rfl ?_
      refine e_iload_n (pc := 21) g 2 dX9_tides_21 rfl ?_
      obtain ⟨r11, M9, f10, h⟩ := h
      refine e_callV (As := [.int a1, .int a2]) (S := []) (pc := 22) g ok_X5_faultAs ml_X9_229 sh_64 ⟨_, rfl, rfl⟩ f10 (by omega) rfl (Nat.le_of_ble_eq_true rfl) dX9_tides_22 ?_
      refine e_to (S' := [.int r11]) rfl rfl rfl ?_
      refine e_istore (pc := 25) g [(0, .ref 0), (1, .int a1), (2, .int a2), (3, .int a3), (4, .int r11)] dX9_tides_25 (by decide) rfl ?_
      refine e_iload (pc := 27) g 4 dX9_tides_27 rfl ?_
      refine e_if_eq (pc := 29) g 38 dX9_tides_29 (by decide) (fun c12 => ?_) (fun c12 => ?_)
      · have h := h.1 c12
        refine e_iconst (pc := 38) g 0 dX9_tides_38 kc_0 ?_
        refine e_istore (pc := 39) g [(0, .ref 0), (1, .int a1), (2, .int a2), (3, .int a3), (4, .int r11), (5, .int 0)] dX9_tides_39 (by decide) rfl ?_
        exact h
      · have h := h.2 c12
        refine e_bipush (pc := 32) g (-10) dX9_tides_32 kb_m10 ?_
        refine e_iload (pc := 34) g 4 dX9_tides_34 rfl ?_
        refine e_isub (pc := 36) g dX9_tides_36 ?_
        exact e_iret (pc := 37) g gr rfl dX9_tides_37 h
    · have h := h.2 c8
      refine e_iconst (pc := 14) g (-1) dX9_tides_14 kc_m1 ?_
      exact e_iret (pc := 15) g gr rfl dX9_tides_15 h
set_option maxHeartbeats 4000000 in
set_option maxRecDepth 100000 in
theorem b_X9_tides_41 {G : GC} {n : Nat} {r : Option Value} {M' : MM} (g : Good G mX9_tides n) (gr : GoodR G r M') (hn : 3 ≤ n)  (v1 : Int32) (v2 : Int32) (v3 : Int32) (v4 : Int32) (v5 : Int32)  (M : MM) (h : (((24 : Int32) ≤ v5 → (vp_in v1 4) ∧ (shp (66 + v1.toNatClampNeg) = (1, 0, 60, [])) ∧ (¬ v3 < (0 : Int32)) ∧ (¬ 0 < (0 : Int32)) ∧ (¬ 24 < (0 : Int32)) ∧ (v3.toNatClampNeg + (24 : Int32).toNatClampNeg ≤ 60) ∧ ((0 : Int32).toNatClampNeg + (24 : Int32).toNatClampNeg ≤ 24) ∧ (∀ M9 : MM, M9 = uc M 30 (va_cpy (M.1 (66 + v1.toNatClampNeg)) (M.1 30) v3.toNatClampNeg (0 : Int32).toNatClampNeg (24 : Int32).toNatClampNeg) → (r = some (.int 1) ∧ M' = M9))) ∧ (¬ ((24 : Int32) ≤ v5) → (∃ (r12 : Int32) (M10 : MM), Fn 1 mX5_hasCell [.ref 64, .int v1, .int (v3 + v5)] M (some (.int r12)) M10 ∧ ((¬ r12 = (0 : Int32) → (vp_in v1 4) ∧ (shp (66 + v1.toNatClampNeg) = (1, 0, 60, [])) ∧ (vp_in (v3 + v5) 60) ∧ (∃ (r19 : Int32) (M17 : MM), Fn 2 mX9_isHeight [.int (M10.1 (66 + v1.toNatClampNeg) (v3 + v5).toNatClampNeg)] M10 (some (.int r19)) M17 ∧ ((¬ r19 = (0 : Int32) → (∀ x21 : Int32, x21 = v5 + 1 → At_X9_tides_41 G v1 v2 v3 v4 x21 M17)) ∧ (r19 = (0 : Int32) → (r = some (.int ((-20) - v5)) ∧ M' = M17))))) ∧ (r12 = (0 : Int32) → (r = some (.int (-12)) ∧ M' = M10))))))) : At_X9_tides_41 G v1 v2 v3 v4 v5 M := by
  unfold At_X9_tides_41
  refine e_iload (pc := 41) g 5 dX9_tides_41 rfl ?_
  refine e_bipush (pc := 43) g 24 dX9_tides_43 kb_24 ?_
  refine e_icmp_ge (pc := 45) g 98 dX9_tides_45 (by decide) (fun c1 => ?_) (fun c1 => ?_)
  · have h := h.1 c1
    refine e_aload_n (pc := 98) g 0 dX9_tides_98 rfl ?_
    refine e_getR (pc := 99) g 64 fl_X9_35 sh_0 rfl dX9_tides_99 ?_
    refine e_getR (pc := 102) g 65 fl_X9_232 sh_64 rfl dX9_tides_102 ?_
    refine e_iload_n (pc := 105) g 1 dX9_tides_105 rfl ?_
    obtain ⟨o2, h⟩ := h
    refine e_aald (pc := 106) g sh_65 o2 dX9_tides_106 ?_
    obtain ⟨o3, h⟩ := h
    refine e_iload_n (pc := 107) g 3 dX9_tides_107 rfl ?_
    refine e_aload_n (pc := 108) g 0 dX9_tides_108 rfl ?_
    refine e_getR (pc := 109) g 1 fl_X9_12 sh_0 rfl dX9_tides_109 ?_
    refine e_getR (pc := 112) g 30 fl_X9_140 sh_1 rfl dX9_tides_112 ?_
    refine e_iconst (pc := 115) g 0 dX9_tides_115 kc_0 ?_
    refine e_bipush (pc := 116) g 24 dX9_tides_116 kb_24 ?_
    obtain ⟨o4, h⟩ := h
    obtain ⟨o5, h⟩ := h
    obtain ⟨o6, h⟩ := h
    obtain ⟨o7, h⟩ := h
    obtain ⟨o8, h⟩ := h
    refine e_copy (pc := 118) g (by omega) mc_X9_235 ac_nat ac_stat ac_ini o3 sh_30 o4 o5 o6 o7 o8 (Nat.le_of_ble_eq_true rfl) dX9_tides_118 ?_
    obtain ⟨M9, qM9⟩ : ∃ y : MM, y = uc M 30 (va_cpy (M.1 (66 + v1.toNatClampNeg)) (M.1 30) v3.toNatClampNeg (0 : Int32).toNatClampNeg (24 : Int32).toNatClampNeg) := ⟨_, rfl⟩
    have h := h M9 qM9
    refine e_to (M' := M9) rfl rfl (by rw [qM9]) ?_
    refine e_iconst (pc := 121) g 1 dX9_tides_121 kc_1 ?_
    exact e_iret (pc := 122) g gr rfl dX9_tides_122 h
  · have h := h.2 c1
    refine e_aload_n (pc := 48) g 0 dX9_tides_48 rfl ?_
    refine e_getR (pc := 49) g 64 fl_X9_35 sh_0 rfl dX9_tides_49 ?_
    refine e_iload_n (pc := 52) g 1 dX9_tides_52 rfl ?_
    refine e_iload_n (pc := 53) g 3 dX9_tides_53 rfl ?_
    refine e_iload (pc := 54) g 5 dX9_tides_54 rfl ?_
    refine e_iadd (pc := 56) g dX9_tides_56 ?_
    obtain ⟨r12, M10, f11, h⟩ := h
    refine e_callV (As := [.int v1, .int (v3 + v5)]) (S := []) (pc := 57) g ok_X5_hasCell ml_X9_224 sh_64 ⟨_, rfl, rfl⟩ f11 (by omega) rfl (Nat.le_of_ble_eq_true rfl) dX9_tides_57 ?_
    refine e_to (S' := [.int r12]) rfl rfl rfl ?_
    refine e_if_ne (pc := 60) g 66 dX9_tides_60 (by decide) (fun c13 => ?_) (fun c13 => ?_)
    · have h := h.1 c13
      refine e_aload_n (pc := 66) g 0 dX9_tides_66 rfl ?_
      refine e_getR (pc := 67) g 64 fl_X9_35 sh_0 rfl dX9_tides_67 ?_
      refine e_getR (pc := 70) g 65 fl_X9_232 sh_64 rfl dX9_tides_70 ?_
      refine e_iload_n (pc := 73) g 1 dX9_tides_73 rfl ?_
      obtain ⟨o14, h⟩ := h
      refine e_aald (pc := 74) g sh_65 o14 dX9_tides_74 ?_
      obtain ⟨o15, h⟩ := h
      refine e_iload_n (pc := 75) g 3 dX9_tides_75 rfl ?_
      refine e_iload (pc := 76) g 5 dX9_tides_76 rfl ?_
      refine e_iadd (pc := 78) g dX9_tides_78 ?_
      obtain ⟨o16, h⟩ := h
      refine e_iald (pc := 79) g o15 o16 dX9_tides_79 ?_
      obtain ⟨r19, M17, f18, h⟩ := h
      refine e_callS (As := [.int (M10.1 (66 + v1.toNatClampNeg) (v3 + v5).toNatClampNeg)]) (S := []) (pc := 80) g ok_X9_isHeight ml_X9_43 f18 (by omega) rfl (Nat.le_of_ble_eq_true rfl) dX9_tides_80 ?_
      refine e_to (S' := [.int r19]) rfl rfl rfl ?_
      refine e_if_ne (pc := 83) g 92 dX9_tides_83 (by decide) (fun c20 => ?_) (fun c20 => ?_)
      · have h := h.1 c20
        obtain ⟨x21, qx21⟩ : ∃ y : Int32, y = v5 + 1 := ⟨_, rfl⟩
        have h := h x21 qx21
        refine e_iinc (pc := 92) g 5 x21 [(0, .ref 0), (1, .int v1), (2, .int v2), (3, .int v3), (4, .int v4), (5, .int x21)] dX9_tides_92 rfl (by rw [qx21]; rfl) (by decide) rfl ?_
        refine e_goto (pc := 95) g 41 dX9_tides_95 (by decide) ?_
        exact h
      · have h := h.2 c20
        refine e_bipush (pc := 86) g (-20) dX9_tides_86 kb_m20 ?_
        refine e_iload (pc := 88) g 5 dX9_tides_88 rfl ?_
        refine e_isub (pc := 90) g dX9_tides_90 ?_
        exact e_iret (pc := 91) g gr rfl dX9_tides_91 h
    · have h := h.2 c13
      refine e_bipush (pc := 63) g (-12) dX9_tides_63 kb_m12 ?_
      exact e_iret (pc := 65) g gr rfl dX9_tides_65 h
set_option maxHeartbeats 4000000 in
set_option maxRecDepth 100000 in
theorem b_X9_count_0 {G : GC} {n : Nat} {r : Option Value} {M' : MM} (g : Good G mX9_count n) (gr : GoodR G r M') (hn : 4 ≤ n) (a1 : Int32)   (M : MM) (h : ((a1 = (0 : Int32) → (r = some (.int (M.1 2 7)) ∧ M' = M)) ∧ (a1 = (1 : Int32) → (r = some (.int (M.1 10 4)) ∧ M' = M)) ∧ (a1 = (2 : Int32) → (r = some (.int (M.1 15 7)) ∧ M' = M)) ∧ (a1 = (3 : Int32) → (r = some (.int (M.1 22 3)) ∧ M' = M)) ∧ (a1 = (4 : Int32) → (r = some (.int (M.1 32 1)) ∧ M' = M)) ∧ (a1 = (5 : Int32) → (r = some (.int (M.1 1 7)) ∧ M' = M)) ∧ (a1 = (6 : Int32) → (∃ (r3 : Int32) (M1 : MM), Fn 3 mX0_alarms [.ref 2] M (some (.int r3)) M1 ∧ (r = some (.int r3) ∧ M' = M1))) ∧ (a1 = (7 : Int32) → (r = some (.int (M.1 1 8)) ∧ M' = M)) ∧ (a1 = (8 : Int32) → (∃ (r6 : Int32) (M4 : MM), Fn 1 mJ6_bitCount_0f7a4 [.int (M.1 15 6)] M (some (.int r6)) M4 ∧ (r = some (.int r6) ∧ M' = M4))) ∧ (a1 = (9 : Int32) → (∃ (r9 : Int32) (M7 : MM), Fn 1 mX0_allWater [.ref 2] M (some (.int r9)) M7 ∧ (r = some (.int r9) ∧ M' = M7))) ∧ (¬ a1 = (0 : Int32) → ¬ a1 = (1 : Int32) → ¬ a1 = (2 : Int32) → ¬ a1 = (3 : Int32) → ¬ a1 = (4 : Int32) → ¬ a1 = (5 : Int32) → ¬ a1 = (6 : Int32) → ¬ a1 = (7 : Int32) → ¬ a1 = (8 : Int32) → ¬ a1 = (9 : Int32) → (r = some (.int (-1)) ∧ M' = M)))) : Ev G 0 [(0, .ref 0), (1, .int a1)] [] M := by
  refine e_iload_n (pc := 0) g 1 dX9_count_0 rfl ?_
  obtain ⟨h0, h1, h2, h3, h4, h5, h6, h7, h8, h9, hd⟩ := h
  by_cases cs0 : a1 = (0 : Int32)
  · have h := h0 cs0
    refine e_to (S' := [.int 0]) rfl (by rw [cs0]) rfl ?_
    refine e_tabIn (off := 55) (pc := 1) g 56 dX9_count_1 (by decide) (by decide) (by decide +kernel) (by decide) ?_
    refine e_aload_n (pc := 56) g 0 dX9_count_56 rfl ?_
    refine e_getR (pc := 57) g 1 fl_X9_12 sh_0 rfl dX9_count_57 ?_
    refine e_getR (pc := 60) g 2 fl_X9_48 sh_1 rfl dX9_count_60 ?_
    refine e_getI (pc := 63) g fl_X9_241 sh_2 rfl dX9_count_63 ?_
    exact e_iret (pc := 66) g gr rfl dX9_count_66 h
  by_cases cs1 : a1 = (1 : Int32)
  · have h := h1 cs1
    refine e_to (S' := [.int 1]) rfl (by rw [cs1]) rfl ?_
    refine e_tabIn (off := 66) (pc := 1) g 67 dX9_count_1 (by decide) (by decide) (by decide +kernel) (by decide) ?_
    refine e_aload_n (pc := 67) g 0 dX9_count_67 rfl ?_
    refine e_getR (pc := 68) g 1 fl_X9_12 sh_0 rfl dX9_count_68 ?_
    refine e_getR (pc := 71) g 10 fl_X9_85 sh_1 rfl dX9_count_71 ?_
    refine e_getI (pc := 74) g fl_X9_244 sh_10 rfl dX9_count_74 ?_
    exact e_iret (pc := 77) g gr rfl dX9_count_77 h
  by_cases cs2 : a1 = (2 : Int32)
  · have h := h2 cs2
    refine e_to (S' := [.int 2]) rfl (by rw [cs2]) rfl ?_
    refine e_tabIn (off := 77) (pc := 1) g 78 dX9_count_1 (by decide) (by decide) (by decide +kernel) (by decide) ?_
    refine e_aload_n (pc := 78) g 0 dX9_count_78 rfl ?_
    refine e_getR (pc := 79) g 1 fl_X9_12 sh_0 rfl dX9_count_79 ?_
    refine e_getR (pc := 82) g 15 fl_X9_95 sh_1 rfl dX9_count_82 ?_
    refine e_getI (pc := 85) g fl_X9_245 sh_15 rfl dX9_count_85 ?_
    exact e_iret (pc := 88) g gr rfl dX9_count_88 h
  by_cases cs3 : a1 = (3 : Int32)
  · have h := h3 cs3
    refine e_to (S' := [.int 3]) rfl (by rw [cs3]) rfl ?_
    refine e_tabIn (off := 88) (pc := 1) g 89 dX9_count_1 (by decide) (by decide) (by decide +kernel) (by decide) ?_
    refine e_aload_n (pc := 89) g 0 dX9_count_89 rfl ?_
    refine e_getR (pc := 90) g 1 fl_X9_12 sh_0 rfl dX9_count_90 ?_
    refine e_getR (pc := 93) g 22 fl_X9_104 sh_1 rfl dX9_count_93 ?_
    refine e_getI (pc := 96) g fl_X9_246 sh_22 rfl dX9_count_96 ?_
    exact e_iret (pc := 99) g gr rfl dX9_count_99 h
  by_cases cs4 : a1 = (4 : Int32)
  · have h := h4 cs4
    refine e_to (S' := [.int 4]) rfl (by rw [cs4]) rfl ?_
    refine e_tabIn (off := 99) (pc := 1) g 100 dX9_count_1 (by decide) (by decide) (by decide +kernel) (by decide) ?_
    refine e_aload_n (pc := 100) g 0 dX9_count_100 rfl ?_
    refine e_getR (pc := 101) g 32 fl_X9_19 sh_0 rfl dX9_count_101 ?_
    refine e_getI (pc := 104) g fl_X9_247 sh_32 rfl dX9_count_104 ?_
    exact e_iret (pc := 107) g gr rfl dX9_count_107 h
  by_cases cs5 : a1 = (5 : Int32)
  · have h := h5 cs5
    refine e_to (S' := [.int 5]) rfl (by rw [cs5]) rfl ?_
    refine e_tabIn (off := 107) (pc := 1) g 108 dX9_count_1 (by decide) (by decide) (by decide +kernel) (by decide) ?_
    refine e_aload_n (pc := 108) g 0 dX9_count_108 rfl ?_
    refine e_getR (pc := 109) g 1 fl_X9_12 sh_0 rfl dX9_count_109 ?_
    refine e_getI (pc := 112) g fl_X9_114 sh_1 rfl dX9_count_112 ?_
    exact e_iret (pc := 115) g gr rfl dX9_count_115 h
  by_cases cs6 : a1 = (6 : Int32)
  · have h := h6 cs6
    refine e_to (S' := [.int 6]) rfl (by rw [cs6]) rfl ?_
    refine e_tabIn (off := 115) (pc := 1) g 116 dX9_count_1 (by decide) (by decide) (by decide +kernel) (by decide) ?_
    refine e_aload_n (pc := 116) g 0 dX9_count_116 rfl ?_
    refine e_getR (pc := 117) g 1 fl_X9_12 sh_0 rfl dX9_count_117 ?_
    refine e_getR (pc := 120) g 2 fl_X9_48 sh_1 rfl dX9_count_120 ?_
    obtain ⟨r3, M1, f2, h⟩ := h
    refine e_callV (As := []) (S := []) (pc := 123) g ok_X0_alarms ml_X9_248 sh_2 ⟨_, rfl, rfl⟩ f2 (by omega) rfl (Nat.le_of_ble_eq_true rfl) dX9_count_123 ?_
    refine e_to (S' := [.int r3]) rfl rfl rfl ?_
    exact e_iret (pc := 126) g gr rfl dX9_count_126 h
  by_cases cs7 : a1 = (7 : Int32)
  · have h := h7 cs7
    refine e_to (S' := [.int 7]) rfl (by rw [cs7]) rfl ?_
    refine e_tabIn (off := 126) (pc := 1) g 127 dX9_count_1 (by decide) (by decide) (by decide +kernel) (by decide) ?_
    refine e_aload_n (pc := 127) g 0 dX9_count_127 rfl ?_
    refine e_getR (pc := 128) g 1 fl_X9_12 sh_0 rfl dX9_count_128 ?_
    refine e_getI (pc := 131) g fl_X9_251 sh_1 rfl dX9_count_131 ?_
    exact e_iret (pc := 134) g gr rfl dX9_count_134 h
  by_cases cs8 : a1 = (8 : Int32)
  · have h := h8 cs8
    refine e_to (S' := [.int 8]) rfl (by rw [cs8]) rfl ?_
    refine e_tabIn (off := 134) (pc := 1) g 135 dX9_count_1 (by decide) (by decide) (by decide +kernel) (by decide) ?_
    refine e_aload_n (pc := 135) g 0 dX9_count_135 rfl ?_
    refine e_getR (pc := 136) g 1 fl_X9_12 sh_0 rfl dX9_count_136 ?_
    refine e_getR (pc := 139) g 15 fl_X9_95 sh_1 rfl dX9_count_139 ?_
    refine e_getI (pc := 142) g fl_X9_254 sh_15 rfl dX9_count_142 ?_
    obtain ⟨r6, M4, f5, h⟩ := h
    refine e_callS (As := [.int (M.1 15 6)]) (S := []) (pc := 145) g ok_J6_bitCount_0f7a4 ml_X9_257 f5 (by omega) rfl (Nat.le_of_ble_eq_true rfl) dX9_count_145 ?_
    refine e_to (S' := [.int r6]) rfl rfl rfl ?_
    exact e_iret (pc := 148) g gr rfl dX9_count_148 h
  by_cases cs9 : a1 = (9 : Int32)
  · have h := h9 cs9
    refine e_to (S' := [.int 9]) rfl (by rw [cs9]) rfl ?_
    refine e_tabIn (off := 148) (pc := 1) g 149 dX9_count_1 (by decide) (by decide) (by decide +kernel) (by decide) ?_
    refine e_aload_n (pc := 149) g 0 dX9_count_149 rfl ?_
    refine e_getR (pc := 150) g 1 fl_X9_12 sh_0 rfl dX9_count_150 ?_
    refine e_getR (pc := 153) g 2 fl_X9_48 sh_1 rfl dX9_count_153 ?_
    obtain ⟨r9, M7, f8, h⟩ := h
    refine e_callV (As := []) (S := []) (pc := 156) g ok_X0_allWater ml_X9_262 sh_2 ⟨_, rfl, rfl⟩ f8 (by omega) rfl (Nat.le_of_ble_eq_true rfl) dX9_count_156 ?_
    refine e_to (S' := [.int r9]) rfl rfl rfl ?_
    exact e_iret (pc := 159) g gr rfl dX9_count_159 h
  have h := hd cs0 cs1 cs2 cs3 cs4 cs5 cs6 cs7 cs8 cs9
  refine e_tabOut (pc := 1) g 160 dX9_count_1 (tab_10 cs0 cs1 cs2 cs3 cs4 cs5 cs6 cs7 cs8 cs9) (by decide) ?_
  refine e_iconst (pc := 160) g (-1) dX9_count_160 kc_m1 ?_
  exact e_iret (pc := 161) g gr rfl dX9_count_161 h
set_option maxHeartbeats 4000000 in
set_option maxRecDepth 100000 in
theorem b_X9_within_0 {G : GC} {n : Nat} {r : Option Value} {M' : MM} (g : Good G mX9_within n) (gr : GoodR G r M') (hn : 1 ≤ n) (a0 : Int32) (a1 : Int32) (a2 : Int32)   (M : MM) (h : ((if a0 < (a1 : Int32) then 0 else (if (a2 : Int32) < a0 then 0 else 1)) = (0 : Int32) ∨ (if a0 < (a1 : Int32) then 0 else (if (a2 : Int32) < a0 then 0 else 1)) = (1 : Int32)) ∧ (r = some (.int (if a0 < (a1 : Int32) then 0 else (if (a2 : Int32) < a0 then 0 else 1))) ∧ M' = M)) : Ev G 0 [(0, .int a0), (1, .int a1), (2, .int a2)] [] M := by
  refine e_iload_n (pc := 0) g 0 dX9_within_0 rfl ?_
  refine e_iload_n (pc := 1) g 1 dX9_within_1 rfl ?_
  have hj : Ev G 15 [(0, .int a0), (1, .int a1), (2, .int a2)] [.int (if a0 < (a1 : Int32) then 0 else (if (a2 : Int32) < a0 then 0 else 1))] M := by
    obtain ⟨o3, h⟩ := h
    exact e_zret (pc := 15) g gr rfl o3 dX9_within_15 h
  refine e_icmp_lt (pc := 2) g 14 dX9_within_2 (by decide) (fun c1 => ?_) (fun c1 => ?_)
  · rw [if_pos c1] at hj
    refine e_iconst (pc := 14) g 0 dX9_within_14 kc_0 ?_
    exact hj
  · rw [if_neg c1] at hj
    refine e_iload_n (pc := 5) g 0 dX9_within_5 rfl ?_
    refine e_iload_n (pc := 6) g 2 dX9_within_6 rfl ?_
    refine e_icmp_gt (pc := 7) g 14 dX9_within_7 (by decide) (fun c2 => ?_) (fun c2 => ?_)
    · rw [if_pos c2] at hj
      refine e_iconst (pc := 14) g 0 dX9_within_14 kc_0 ?_
      exact hj
    · rw [if_neg c2] at hj
      refine e_iconst (pc := 10) g 1 dX9_within_10 kc_1 ?_
      refine e_goto (pc := 11) g 15 dX9_within_11 (by decide) ?_
      exact hj
set_option maxHeartbeats 4000000 in
set_option maxRecDepth 100000 in
theorem b_X9_isHeight_0 {G : GC} {n : Nat} {r : Option Value} {M' : MM} (g : Good G mX9_isHeight n) (gr : GoodR G r M') (hn : 2 ≤ n) (a0 : Int32)   (M : MM) (h : (∃ (r3 : Int32) (M1 : MM), Fn 1 mX9_within [.int a0, .int (-500), .int 500] M (some (.int r3)) M1 ∧ (r3 = (0 : Int32) ∨ r3 = (1 : Int32)) ∧ (r = some (.int r3) ∧ M' = M1))) : Ev G 0 [(0, .int a0)] [] M := by
  refine e_iload_n (pc := 0) g 0 dX9_isHeight_0 rfl ?_
  refine e_sipush (pc := 1) g (-500) dX9_isHeight_1 ks_m500 ?_
  refine e_sipush (pc := 4) g 500 dX9_isHeight_4 ks_500 ?_
  obtain ⟨r3, M1, f2, h⟩ := h
  refine e_callS (As := [.int a0, .int (-500), .int 500]) (S := []) (pc := 7) g ok_X9_within ml_X9_39 f2 (by omega) rfl (Nat.le_of_ble_eq_true rfl) dX9_isHeight_7 ?_
  refine e_to (S' := [.int r3]) rfl rfl rfl ?_
  obtain ⟨o4, h⟩ := h
  exact e_zret (pc := 10) g gr rfl o4 dX9_isHeight_10 h
set_option maxHeartbeats 4000000 in
set_option maxRecDepth 100000 in
theorem b_X9_isRain_0 {G : GC} {n : Nat} {r : Option Value} {M' : MM} (g : Good G mX9_isRain n) (gr : GoodR G r M') (hn : 2 ≤ n) (a0 : Int32)   (M : MM) (h : (∃ (r3 : Int32) (M1 : MM), Fn 1 mX9_within [.int a0, .int 0, .int 100] M (some (.int r3)) M1 ∧ (r3 = (0 : Int32) ∨ r3 = (1 : Int32)) ∧ (r = some (.int r3) ∧ M' = M1))) : Ev G 0 [(0, .int a0)] [] M := by
  refine e_iload_n (pc := 0) g 0 dX9_isRain_0 rfl ?_
  refine e_iconst (pc := 1) g 0 dX9_isRain_1 kc_0 ?_
  refine e_bipush (pc := 2) g 100 dX9_isRain_2 kb_100 ?_
  obtain ⟨r3, M1, f2, h⟩ := h
  refine e_callS (As := [.int a0, .int 0, .int 100]) (S := []) (pc := 4) g ok_X9_within ml_X9_39 f2 (by omega) rfl (Nat.le_of_ble_eq_true rfl) dX9_isRain_4 ?_
  refine e_to (S' := [.int r3]) rfl rfl rfl ?_
  obtain ⟨o4, h⟩ := h
  exact e_zret (pc := 7) g gr rfl o4 dX9_isRain_7 h
set_option maxHeartbeats 4000000 in
set_option maxRecDepth 100000 in
theorem b_X9_isHourOfDay_0 {G : GC} {n : Nat} {r : Option Value} {M' : MM} (g : Good G mX9_isHourOfDay n) (gr : GoodR G r M') (hn : 2 ≤ n) (a0 : Int32)   (M : MM) (h : (∃ (r3 : Int32) (M1 : MM), Fn 1 mX9_within [.int a0, .int 0, .int 23] M (some (.int r3)) M1 ∧ (r3 = (0 : Int32) ∨ r3 = (1 : Int32)) ∧ (r = some (.int r3) ∧ M' = M1))) : Ev G 0 [(0, .int a0)] [] M := by
  refine e_iload_n (pc := 0) g 0 dX9_isHourOfDay_0 rfl ?_
  refine e_iconst (pc := 1) g 0 dX9_isHourOfDay_1 kc_0 ?_
  refine e_bipush (pc := 2) g 23 dX9_isHourOfDay_2 kb_23 ?_
  obtain ⟨r3, M1, f2, h⟩ := h
  refine e_callS (As := [.int a0, .int 0, .int 23]) (S := []) (pc := 4) g ok_X9_within ml_X9_39 f2 (by omega) rfl (Nat.le_of_ble_eq_true rfl) dX9_isHourOfDay_4 ?_
  refine e_to (S' := [.int r3]) rfl rfl rfl ?_
  obtain ⟨o4, h⟩ := h
  exact e_zret (pc := 7) g gr rfl o4 dX9_isHourOfDay_7 h
set_option maxHeartbeats 4000000 in
set_option maxRecDepth 100000 in
theorem b_X9_hourOfDay_0 {G : GC} {n : Nat} {r : Option Value} {M' : MM} (g : Good G mX9_hourOfDay n) (gr : GoodR G r M') (hn : 2 ≤ n) (a0 : Int32)   (M : MM) (h : (∃ (r3 : Int32) (M1 : MM), Fn 1 mJ9_floorMod_7cf53 [.int a0, .int 24] M (some (.int r3)) M1 ∧ (r = some (.int r3) ∧ M' = M1))) : Ev G 0 [(0, .int a0)] [] M := by
  refine e_iload_n (pc := 0) g 0 dX9_hourOfDay_0 rfl ?_
  refine e_bipush (pc := 1) g 24 dX9_hourOfDay_1 kb_24 ?_
  obtain ⟨r3, M1, f2, h⟩ := h
  refine e_callS (As := [.int a0, .int 24]) (S := []) (pc := 3) g ok_J9_floorMod_7cf53 ml_X9_265 f2 (by omega) rfl (Nat.le_of_ble_eq_true rfl) dX9_hourOfDay_3 ?_
  refine e_to (S' := [.int r3]) rfl rfl rfl ?_
  exact e_iret (pc := 6) g gr rfl dX9_hourOfDay_6 h
set_option maxHeartbeats 4000000 in
set_option maxRecDepth 100000 in
theorem b_X9_isPlanned_0 {G : GC} {n : Nat} {r : Option Value} {M' : MM} (g : Good G mX9_isPlanned n) (gr : GoodR G r M') (hn : 2 ≤ n) (a0 : Int32)   (M : MM) (h : (∃ (r3 : Int32) (M1 : MM), Fn 1 mX9_within [.int a0, .int 1, .int 6] M (some (.int r3)) M1 ∧ (r3 = (0 : Int32) ∨ r3 = (1 : Int32)) ∧ (r = some (.int r3) ∧ M' = M1))) : Ev G 0 [(0, .int a0)] [] M := by
  refine e_iload_n (pc := 0) g 0 dX9_isPlanned_0 rfl ?_
  refine e_iconst (pc := 1) g 1 dX9_isPlanned_1 kc_1 ?_
  refine e_bipush (pc := 2) g 6 dX9_isPlanned_2 kb_6 ?_
  obtain ⟨r3, M1, f2, h⟩ := h
  refine e_callS (As := [.int a0, .int 1, .int 6]) (S := []) (pc := 4) g ok_X9_within ml_X9_39 f2 (by omega) rfl (Nat.le_of_ble_eq_true rfl) dX9_isPlanned_4 ?_
  refine e_to (S' := [.int r3]) rfl rfl rfl ?_
  obtain ⟨o4, h⟩ := h
  exact e_zret (pc := 7) g gr rfl o4 dX9_isPlanned_7 h
set_option maxHeartbeats 4000000 in
set_option maxRecDepth 100000 in
theorem b_X9_isSheet_0 {G : GC} {n : Nat} {r : Option Value} {M' : MM} (g : Good G mX9_isSheet n) (gr : GoodR G r M') (hn : 2 ≤ n) (a0 : Int32)   (M : MM) (h : (∃ (r3 : Int32) (M1 : MM), Fn 1 mX9_within [.int a0, .int 0, .int 3] M (some (.int r3)) M1 ∧ (r3 = (0 : Int32) ∨ r3 = (1 : Int32)) ∧ (r = some (.int r3) ∧ M' = M1))) : Ev G 0 [(0, .int a0)] [] M := by
  refine e_iload_n (pc := 0) g 0 dX9_isSheet_0 rfl ?_
  refine e_iconst (pc := 1) g 0 dX9_isSheet_1 kc_0 ?_
  refine e_iconst (pc := 2) g 3 dX9_isSheet_2 kc_3 ?_
  obtain ⟨r3, M1, f2, h⟩ := h
  refine e_callS (As := [.int a0, .int 0, .int 3]) (S := []) (pc := 3) g ok_X9_within ml_X9_39 f2 (by omega) rfl (Nat.le_of_ble_eq_true rfl) dX9_isSheet_3 ?_
  refine e_to (S' := [.int r3]) rfl rfl rfl ?_
  obtain ⟨o4, h⟩ := h
  exact e_zret (pc := 6) g gr rfl o4 dX9_isSheet_6 h
set_option maxHeartbeats 4000000 in
set_option maxRecDepth 100000 in
theorem b_X9_isLane_0 {G : GC} {n : Nat} {r : Option Value} {M' : MM} (g : Good G mX9_isLane n) (gr : GoodR G r M') (hn : 2 ≤ n) (a0 : Int32)   (M : MM) (h : (∃ (r3 : Int32) (M1 : MM), Fn 1 mX9_within [.int a0, .int 0, .int 2] M (some (.int r3)) M1 ∧ (r3 = (0 : Int32) ∨ r3 = (1 : Int32)) ∧ (r = some (.int r3) ∧ M' = M1))) : Ev G 0 [(0, .int a0)] [] M := by
  refine e_iload_n (pc := 0) g 0 dX9_isLane_0 rfl ?_
  refine e_iconst (pc := 1) g 0 dX9_isLane_1 kc_0 ?_
  refine e_iconst (pc := 2) g 2 dX9_isLane_2 kc_2 ?_
  obtain ⟨r3, M1, f2, h⟩ := h
  refine e_callS (As := [.int a0, .int 0, .int 2]) (S := []) (pc := 3) g ok_X9_within ml_X9_39 f2 (by omega) rfl (Nat.le_of_ble_eq_true rfl) dX9_isLane_3 ?_
  refine e_to (S' := [.int r3]) rfl rfl rfl ?_
  obtain ⟨o4, h⟩ := h
  exact e_zret (pc := 6) g gr rfl o4 dX9_isLane_6 h

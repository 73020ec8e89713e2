set_option maxHeartbeats 4000000 in
set_option maxRecDepth 100000 in
theorem b_X10_in_0 {G : GC} {n : Nat} {r : Option Value} {M' : MM} (g : Good G mX10_in n) (gr : GoodR G r M') (hn : 1 ≤ n) (a0 : Int64) (a2 : Int64) (a4 : Int64)   (M : MM) (h : ((if a0 < (a2 : Int64) then 0 else (if a0 > (a4 : Int64) then 0 else 1)) = (0 : Int32) ∨ (if a0 < (a2 : Int64) then 0 else (if a0 > (a4 : Int64) then 0 else 1)) = (1 : Int32)) ∧ (r = some (.int (if a0 < (a2 : Int64) then 0 else (if a0 > (a4 : Int64) then 0 else 1))) ∧ M' = M)) : Ev G 0 [(0, .long a0), (2, .long a2), (4, .long a4)] [] M := by
  refine e_lload_n (pc := 0) g 0 dX10_in_0 rfl ?_
  refine e_lload_n (pc := 1) g 1 dX10_in_1 rfl ?_
  refine e_lcmp (pc := 2) g dX10_in_2 ?_
  have hj : Ev G 18 [(0, .long a0), (2, .long a2), (4, .long a4)] [.int (if a0 < (a2 : Int64) then 0 else (if a0 > (a4 : Int64) then 0 else 1))] M := by
    obtain ⟨o3, h⟩ := h
    exact e_zret (pc := 18) g gr rfl o3 dX10_in_18 h
  refine e_if_lt (pc := 3) g 17 dX10_in_3 (by decide) (fun c1 => ?_) (fun c1 => ?_)
  · rw [if_pos (lc_lt.mp c1)] at hj
    refine e_iconst (pc := 17) g 0 dX10_in_17 kc_0 ?_
    exact hj
  · rw [if_neg (fun z => c1 (lc_lt.mpr z))] at hj
    refine e_lload_n (pc := 6) g 0 dX10_in_6 rfl ?_
    refine e_lload (pc := 7) g 2 dX10_in_7 rfl ?_
    refine e_lcmp (pc := 9) g dX10_in_9 ?_
    refine e_if_gt (pc := 10) g 17 dX10_in_10 (by decide) (fun c2 => ?_) (fun c2 => ?_)
    · rw [if_pos (lc_gt.mp c2)] at hj
      refine e_iconst (pc := 17) g 0 dX10_in_17 kc_0 ?_
      exact hj
    · rw [if_neg (fun z => c2 (lc_gt.mpr z))] at hj
      refine e_iconst (pc := 13) g 1 dX10_in_13 kc_1 ?_
      refine e_goto (pc := 14) g 18 dX10_in_14 (by decide) ?_
      exact hj
set_option maxHeartbeats 4000000 in
set_option maxRecDepth 100000 in
theorem b_X10_isDitch_0 {G : GC} {n : Nat} {r : Option Value} {M' : MM} (g : Good G mX10_isDitch n) (gr : GoodR G r M') (hn : 2 ≤ n) (a1 : Int32)   (M : MM) (h : (∃ (r3 : Int32) (M1 : MM), Fn 1 mX10_in [.long (a1.toInt64), .long 0, .long (((M.1 72 0) - 1).toInt64)] M (some (.int r3)) M1 ∧ (r3 = (0 : Int32) ∨ r3 = (1 : Int32)) ∧ (r = some (.int r3) ∧ M' = M1))) : Ev G 0 [(0, .ref 72), (1, .int a1)] [] M := by
  refine e_iload_n (pc := 0) g 1 dX10_isDitch_0 rfl ?_
  refine e_i2l (pc := 1) g dX10_isDitch_1 ?_
  refine e_lconst (pc := 2) g 0 dX10_isDitch_2 kl_0 ?_
  refine e_aload_n (pc := 3) g 0 dX10_isDitch_3 rfl ?_
  refine e_getI (pc := 4) g fl_X10_113 sh_72 rfl dX10_isDitch_4 ?_
  refine e_iconst (pc := 7) g 1 dX10_isDitch_7 kc_1 ?_
  refine e_isub (pc := 8) g dX10_isDitch_8 ?_
  refine e_i2l (pc := 9) g dX10_isDitch_9 ?_
  obtain ⟨r3, M1, f2, h⟩ := h
  refine e_callS (As := [.long (a1.toInt64), .long 0, .long (((M.1 72 0) - 1).toInt64)]) (S := []) (pc := 10) g ok_X10_in ml_X10_117 f2 (by omega) rfl (Nat.le_of_ble_eq_true rfl) dX10_isDitch_10 ?_
  refine e_to (S' := [.int r3]) rfl rfl rfl ?_
  obtain ⟨o4, h⟩ := h
  exact e_zret (pc := 13) g gr rfl o4 dX10_isDitch_13 h
set_option maxHeartbeats 4000000 in
set_option maxRecDepth 100000 in
theorem b_X10_ditch_0 {G : GC} {n : Nat} {r : Option Value} {M' : MM} (g : Good G mX10_ditch n) (gr : GoodR G r M') (hn : 2 ≤ n) (a1 : Int32) (a2 : Int32) (a3 : Int32)   (M : MM) (h : (∃ (r3 : Int32) (M1 : MM), Fn 1 mX10_in [.long (a1.toInt64), .long 1, .long 50] M (some (.int r3)) M1 ∧ ((r3 = (0 : Int32) → (r = some (.int (-1)) ∧ M' = M1)) ∧ (¬ (r3 = (0 : Int32)) → (∃ (r7 : Int32) (M5 : MM), Fn 1 mX10_in [.long (a2.toInt64), .long (-500), .long 500] M1 (some (.int r7)) M5 ∧ ((r7 = (0 : Int32) → (r = some (.int (-1)) ∧ M' = M5)) ∧ (¬ (r7 = (0 : Int32)) → (∃ (r11 : Int32) (M9 : MM), Fn 1 mX10_in [.long (a3.toInt64), .long 0, .long 100000] M5 (some (.int r11)) M9 ∧ ((¬ r11 = (0 : Int32) → ((¬ (M9.1 72 0) = (6 : Int32) → (vp_in (M9.1 72 0) 6) ∧ (∀ M15 : MM, M15 = ui M9 73 (M9.1 72 0).toNatClampNeg a1 → (vp_in (M15.1 72 0) 6) ∧ (∀ M17 : MM, M17 = ui M15 74 (M15.1 72 0).toNatClampNeg a2 → (vp_in (M17.1 72 0) 6) ∧ (∀ M19 : MM, M19 = ui M17 75 (M17.1 72 0).toNatClampNeg a3 → (vp_in (M19.1 72 0) 6) ∧ (∀ M21 : MM, M21 = ui M19 76 (M19.1 72 0).toNatClampNeg (-1000) → (vp_in (M21.1 72 0) 6) ∧ (∀ M23 : MM, M23 = ui M21 77 (M21.1 72 0).toNatClampNeg 1000 → (∀ M24 : MM, M24 = ui M23 72 0 ((M23.1 72 0) + 1) → (r = some (.int ((M24.1 72 0) - 1)) ∧ M' = M24)))))))) ∧ ((M9.1 72 0) = (6 : Int32) → (r = some (.int (-3)) ∧ M' = M9)))) ∧ (r11 = (0 : Int32) → (r = some (.int (-1)) ∧ M' = M9))))))))))) : Ev G 0 [(0, .ref 72), (1, .int a1), (2, .int a2), (3, .int a3)] [] M := by
  refine e_iload_n (pc := 0) g 1 dX10_ditch_0 rfl ?_
  refine e_i2l (pc := 1) g dX10_ditch_1 ?_
  refine e_lconst (pc := 2) g 1 dX10_ditch_2 kl_1 ?_
  refine e_ldc2 (pc := 3) g 50 kl_X10_121 dX10_ditch_3 ?_
  obtain ⟨r3, M1, f2, h⟩ := h
  refine e_callS (As := [.long (a1.toInt64), .long 1, .long 50]) (S := []) (pc := 6) g ok_X10_in ml_X10_117 f2 (by omega) rfl (Nat.le_of_ble_eq_true rfl) dX10_ditch_6 ?_
  refine e_to (S' := [.int r3]) rfl rfl rfl ?_
  refine e_if_eq (pc := 9) g 38 dX10_ditch_9 (by decide) (fun c4 => ?_) (fun c4 => ?_)
  · have h := h.1 c4
    refine e_iconst (pc := 38) g (-1) dX10_ditch_38 kc_m1 ?_
    exact e_iret (pc := 39) g gr rfl dX10_ditch_39 h
  · have h := h.2 c4
    refine e_iload_n (pc := 12) g 2 dX10_ditch_12 rfl ?_
    refine e_i2l (pc := 13) g dX10_ditch_13 ?_
    refine e_ldc2 (pc := 14) g (-500) kl_X10_123 dX10_ditch_14 ?_
    refine e_ldc2 (pc := 17) g 500 kl_X10_125 dX10_ditch_17 ?_
    obtain ⟨r7, M5, f6, h⟩ := h
    refine e_callS (As := [.long (a2.toInt64), .long (-500), .long 500]) (S := []) (pc := 20) g ok_X10_in ml_X10_117 f6 (by omega) rfl (Nat.le_of_ble_eq_true rfl) dX10_ditch_20 ?_
    refine e_to (S' := [.int r7]) rfl rfl rfl ?_
    refine e_if_eq (pc := 23) g 38 dX10_ditch_23 (by decide) (fun c8 => ?_) (fun c8 => ?_)
    · have h := h.1 c8
      refine e_iconst (pc := 38) g (-1) dX10_ditch_38 kc_m1 ?_
      exact e_iret (pc := 39) g gr rfl dX10_ditch_39 h
    · have h := h.2 c8
      refine e_iload_n (pc := 26) g 3 dX10_ditch_26 rfl ?_
      refine e_i2l (pc := 27) g dX10_ditch_27 ?_
      refine e_lconst (pc := 28) g 0 dX10_ditch_28 kl_0 ?_
      refine e_ldc2 (pc := 29) g 100000 kl_X10_127 dX10_ditch_29 ?_
      obtain ⟨r11, M9, f10, h⟩ := h
      refine e_callS (As := [.long (a3.toInt64), .long 0, .long 100000]) (S := []) (pc := 32) g ok_X10_in ml_X10_117 f10 (by omega) rfl (Nat.le_of_ble_eq_true rfl) dX10_ditch_32 ?_
      refine e_to (S' := [.int r11]) rfl rfl rfl ?_
      refine e_if_ne (pc := 35) g 40 dX10_ditch_35 (by decide) (fun c12 => ?_) (fun c12 => ?_)
      · have h := h.1 c12
        refine e_aload_n (pc := 40) g 0 dX10_ditch_40 rfl ?_
        refine e_getI (pc := 41) g fl_X10_113 sh_72 rfl dX10_ditch_41 ?_
        refine e_bipush (pc := 44) g 6 dX10_ditch_44 kb_6 ?_
        refine e_icmp_ne (pc := 46) g 52 dX10_ditch_46 (by decide) (fun c13 => ?_) (fun c13 => ?_)
        · have h := h.1 c13
          refine e_aload_n (pc := 52) g 0 dX10_ditch_52 rfl ?_
          refine e_getR (pc := 53) g 73 fl_X10_7 sh_72 rfl dX10_ditch_53 ?_
          refine e_aload_n (pc := 56) g 0 dX10_ditch_56 rfl ?_
          refine e_getI (pc := 57) g fl_X10_113 sh_72 rfl dX10_ditch_57 ?_
          refine e_iload_n (pc := 60) g 1 dX10_ditch_60 rfl ?_
          obtain ⟨o14, h⟩ := h
          refine e_iast (pc := 61) g sh_73 o14 dX10_ditch_61 ?_
          obtain ⟨M15, qM15⟩ : ∃ y : MM, y = ui M9 73 (M9.1 72 0).toNatClampNeg a1 := ⟨_, rfl⟩
          have h := h M15 qM15
          refine e_to (M' := M15) rfl rfl (by rw [qM15]) ?_
          refine e_aload_n (pc := 62) g 0 dX10_ditch_62 rfl ?_
          refine e_getR (pc := 63) g 74 fl_X10_13 sh_72 rfl dX10_ditch_63 ?_
          refine e_aload_n (pc := 66) g 0 dX10_ditch_66 rfl ?_
          refine e_getI (pc := 67) g fl_X10_113 sh_72 rfl dX10_ditch_67 ?_
          refine e_iload_n (pc := 70) g 2 dX10_ditch_70 rfl ?_
          obtain ⟨o16, h⟩ := h
          refine e_iast (pc := 71) g sh_74 o16 dX10_ditch_71 ?_
          obtain ⟨M17, qM17⟩ : ∃ y : MM, y = ui M15 74 (M15.1 72 0).toNatClampNeg a2 := ⟨_, rfl⟩
          have h := h M17 qM17
          refine e_to (M' := M17) rfl rfl (by rw [qM17]) ?_
          refine e_aload_n (pc := 72) g 0 dX10_ditch_72 rfl ?_
          refine e_getR (pc := 73) g 75 fl_X10_16 sh_72 rfl dX10_ditch_73 ?_
          refine e_aload_n (pc := 76) g 0 dX10_ditch_76 rfl ?_
          refine e_getI (pc := 77) g fl_X10_113 sh_72 rfl dX10_ditch_77 ?_
          refine e_iload_n (pc := 80) g 3 dX10_ditch_80 rfl ?_
          obtain ⟨o18, h⟩ := h
          refine e_iast (pc := 81) g sh_75 o18 dX10_ditch_81 ?_
          obtain ⟨M19, qM19⟩ : ∃ y : MM, y = ui M17 75 (M17.1 72 0).toNatClampNeg a3 := ⟨_, rfl⟩
          have h := h M19 qM19
          refine e_to (M' := M19) rfl rfl (by rw [qM19]) ?_
          refine e_aload_n (pc := 82) g 0 dX10_ditch_82 rfl ?_
          refine e_getR (pc := 83) g 76 fl_X10_19 sh_72 rfl dX10_ditch_83 ?_
          refine e_aload_n (pc := 86) g 0 dX10_ditch_86 rfl ?_
          refine e_getI (pc := 87) g fl_X10_113 sh_72 rfl dX10_ditch_87 ?_
          refine e_sipush (pc := 90) g (-1000) dX10_ditch_90 ks_m1000 ?_
          obtain ⟨o20, h⟩ := h
          refine e_iast (pc := 93) g sh_76 o20 dX10_ditch_93 ?_
          obtain ⟨M21, qM21⟩ : ∃ y : MM, y = ui M19 76 (M19.1 72 0).toNatClampNeg (-1000) := ⟨_, rfl⟩
          have h := h M21 qM21
          refine e_to (M' := M21) rfl rfl (by rw [qM21]) ?_
          refine e_aload_n (pc := 94) g 0 dX10_ditch_94 rfl ?_
          refine e_getR (pc := 95) g 77 fl_X10_22 sh_72 rfl dX10_ditch_95 ?_
          refine e_aload_n (pc := 98) g 0 dX10_ditch_98 rfl ?_
          refine e_getI (pc := 99) g fl_X10_113 sh_72 rfl dX10_ditch_99 ?_
          refine e_sipush (pc := 102) g 1000 dX10_ditch_102 ks_1000 ?_
          obtain ⟨o22, h⟩ := h
          refine e_iast (pc := 105) g sh_77 o22 dX10_ditch_105 ?_
          obtain ⟨M23, qM23⟩ : ∃ y : MM, y = ui M21 77 (M21.1 72 0).toNatClampNeg 1000 := ⟨_, rfl⟩
          have h := h M23 qM23
          refine e_to (M' := M23) rfl rfl (by rw [qM23]) ?_
          refine e_aload_n (pc := 106) g 0 dX10_ditch_106 rfl ?_
          refine e_dup (pc := 107) g dX10_ditch_107 rfl ?_
          refine e_getI (pc := 108) g fl_X10_113 sh_72 rfl dX10_ditch_108 ?_
          refine e_iconst (pc := 111) g 1 dX10_ditch_111 kc_1 ?_
          refine e_iadd (pc := 112) g dX10_ditch_112 ?_
          refine e_putI (pc := 113) g fw_X10_113 sh_72 rfl dX10_ditch_113 ?_
          obtain ⟨M24, qM24⟩ : ∃ y : MM, y = ui M23 72 0 ((M23.1 72 0) + 1) := ⟨_, rfl⟩
          have h := h M24 qM24
          refine e_to (M' := M24) rfl rfl (by rw [qM24]) ?_
          refine e_aload_n (pc := 116) g 0 dX10_ditch_116 rfl ?_
          refine e_getI (pc := 117) g fl_X10_113 sh_72 rfl dX10_ditch_117 ?_
          refine e_iconst (pc := 120) g 1 dX10_ditch_120 kc_1 ?_
          refine e_isub (pc := 121) g dX10_ditch_121 ?_
          exact e_iret (pc := 122) g gr rfl dX10_ditch_122 h
        · have h := h.2 c13
          refine e_bipush (pc := 49) g (-3) dX10_ditch_49 kb_m3 ?_
          exact e_iret (pc := 51) g gr rfl dX10_ditch_51 h
      · have h := h.2 c12
        refine e_iconst (pc := 38) g (-1) dX10_ditch_38 kc_m1 ?_
        exact e_iret (pc := 39) g gr rfl dX10_ditch_39 h
set_option maxHeartbeats 4000000 in
set_option maxRecDepth 100000 in
theorem b_X10_band_0 {G : GC} {n : Nat} {r : Option Value} {M' : MM} (g : Good G mX10_band n) (gr : GoodR G r M') (hn : 3 ≤ n) (a1 : Int32) (a2 : Int32) (a3 : Int32)   (M : MM) (h : (∃ (r3 : Int32) (M1 : MM), Fn 2 mX10_isDitch [.ref 72, .int a1] M (some (.int r3)) M1 ∧ ((r3 = (0 : Int32) → (r = some (.int (-1)) ∧ M' = M1)) ∧ (¬ (r3 = (0 : Int32)) → (∃ (r7 : Int32) (M5 : MM), Fn 1 mX10_in [.long (a2.toInt64), .long (-1000), .long 1000] M1 (some (.int r7)) M5 ∧ ((r7 = (0 : Int32) → (r = some (.int (-1)) ∧ M' = M5)) ∧ (¬ (r7 = (0 : Int32)) → (∃ (r11 : Int32) (M9 : MM), Fn 1 mX10_in [.long (a3.toInt64), .long (a2.toInt64), .long 1000] M5 (some (.int r11)) M9 ∧ ((¬ r11 = (0 : Int32) → (vp_in a1 6) ∧ (∀ M14 : MM, M14 = ui M9 76 a1.toNatClampNeg a2 → (∀ M15 : MM, M15 = ui M14 77 a1.toNatClampNeg a3 → (r = some (.int 1) ∧ M' = M15)))) ∧ (r11 = (0 : Int32) → (r = some (.int (-1)) ∧ M' = M9))))))))))) : Ev G 0 [(0, .ref 72), (1, .int a1), (2, .int a2), (3, .int a3)] [] M := by
  refine e_aload_n (pc := 0) g 0 dX10_band_0 rfl ?_
  refine e_iload_n (pc := 1) g 1 dX10_band_1 rfl ?_
  obtain ⟨r3, M1, f2, h⟩ := h
  refine e_callV (As := [.int a1]) (S := []) (pc := 2) g ok_X10_isDitch ml_X10_129 sh_72 ⟨_, rfl, rfl⟩ f2 (by omega) rfl (Nat.le_of_ble_eq_true rfl) dX10_band_2 ?_
  refine e_to (S' := [.int r3]) rfl rfl rfl ?_
  refine e_if_eq (pc := 5) g 35 dX10_band_5 (by decide) (fun c4 => ?_) (fun c4 => ?_)
  · have h := h.1 c4
    refine e_iconst (pc := 35) g (-1) dX10_band_35 kc_m1 ?_
    exact e_iret (pc := 36) g gr rfl dX10_band_36 h
  · have h := h.2 c4
    refine e_iload_n (pc := 8) g 2 dX10_band_8 rfl ?_
    refine e_i2l (pc := 9) g dX10_band_9 ?_
    refine e_ldc2 (pc := 10) g (-1000) kl_X10_133 dX10_band_10 ?_
    refine e_ldc2 (pc := 13) g 1000 kl_X10_135 dX10_band_13 ?_
    obtain ⟨r7, M5, f6, h⟩ := h
    refine e_callS (As := [.long (a2.toInt64), .long (-1000), .long 1000]) (S := []) (pc := 16) g ok_X10_in ml_X10_117 f6 (by omega) rfl (Nat.le_of_ble_eq_true rfl) dX10_band_16 ?_
    refine e_to (S' := [.int r7]) rfl rfl rfl ?_
    refine e_if_eq (pc := 19) g 35 dX10_band_19 (by decide) (fun c8 => ?_) (fun c8 => ?_)
    · have h := h.1 c8
      refine e_iconst (pc := 35) g (-1) dX10_band_35 kc_m1 ?_
      exact e_iret (pc := 36) g gr rfl dX10_band_36 h
    · have h := h.2 c8
      refine e_iload_n (pc := 22) g 3 dX10_band_22 rfl ?_
      refine e_i2l (pc := 23) g dX10_band_23 ?_
      refine e_iload_n (pc := 24) g 2 dX10_band_24 rfl ?_
      refine e_i2l (pc := 25) g dX10_band_25 ?_
      refine e_ldc2 (pc := 26) g 1000 kl_X10_135 dX10_band_26 ?_
      obtain ⟨r11, M9, f10, h⟩ := h
      refine e_callS (As := [.long (a3.toInt64), .long (a2.toInt64), .long 1000]) (S := []) (pc := 29) g ok_X10_in ml_X10_117 f10 (by omega) rfl (Nat.le_of_ble_eq_true rfl) dX10_band_29 ?_
      refine e_to (S' := [.int r11]) rfl rfl rfl ?_
      refine e_if_ne (pc := 32) g 37 dX10_band_32 (by decide) (fun c12 => ?_) (fun c12 => ?_)
      · have h := h.1 c12
        refine e_aload_n (pc := 37) g 0 dX10_band_37 rfl ?_
        refine e_getR (pc := 38) g 76 fl_X10_19 sh_72 rfl dX10_band_38 ?_
        refine e_iload_n (pc := 41) g 1 dX10_band_41 rfl ?_
        refine e_iload_n (pc := 42) g 2 dX10_band_42 rfl ?_
        obtain ⟨o13, h⟩ := h
        refine e_iast (pc := 43) g sh_76 o13 dX10_band_43 ?_
        obtain ⟨M14, qM14⟩ : ∃ y : MM, y = ui M9 76 a1.toNatClampNeg a2 := ⟨_, rfl⟩
        have h := h M14 qM14
        refine e_to (M' := M14) rfl rfl (by rw [qM14]) ?_
        refine e_aload_n (pc := 44) g 0 dX10_band_44 rfl ?_
        refine e_getR (pc := 45) g 77 fl_X10_22 sh_72 rfl dX10_band_45 ?_
        refine e_iload_n (pc := 48) g 1 dX10_band_48 rfl ?_
        refine e_iload_n (pc := 49) g 3 dX10_band_49 rfl ?_
        refine e_iast (pc := 50) g sh_77 o13 dX10_band_50 ?_
        obtain ⟨M15, qM15⟩ : ∃ y : MM, y = ui M14 77 a1.toNatClampNeg a3 := ⟨_, rfl⟩
        have h := h M15 qM15
        refine e_to (M' := M15) rfl rfl (by rw [qM15]) ?_
        refine e_iconst (pc := 51) g 1 dX10_band_51 kc_1 ?_
        exact e_iret (pc := 52) g gr rfl dX10_band_52 h
      · have h := h.2 c12
        refine e_iconst (pc := 35) g (-1) dX10_band_35 kc_m1 ?_
        exact e_iret (pc := 36) g gr rfl dX10_band_36 h
set_option maxHeartbeats 4000000 in
set_option maxRecDepth 100000 in
theorem b_X10_level_0 {G : GC} {n : Nat} {r : Option Value} {M' : MM} (g : Good G mX10_level n) (gr : GoodR G r M') (hn : 1 ≤ n) (a1 : Int32)   (M : MM) (h : (vp_in a1 6) ∧ (¬ (M.1 73 a1.toNatClampNeg) = (0 : Int32)) ∧ (r = some (.int ((M.1 74 a1.toNatClampNeg) + ((M.1 75 a1.toNatClampNeg) / (M.1 73 a1.toNatClampNeg)))) ∧ M' = M)) : Ev G 0 [(0, .ref 72), (1, .int a1)] [] M := by
  refine e_aload_n (pc := 0) g 0 dX10_level_0 rfl ?_
  refine e_getR (pc := 1) g 74 fl_X10_13 sh_72 rfl dX10_level_1 ?_
  refine e_iload_n (pc := 4) g 1 dX10_level_4 rfl ?_
  obtain ⟨o1, h⟩ := h
  refine e_iald (pc := 5) g sh_74 o1 dX10_level_5 ?_
  refine e_aload_n (pc := 6) g 0 dX10_level_6 rfl ?_
  refine e_getR (pc := 7) g 75 fl_X10_16 sh_72 rfl dX10_level_7 ?_
  refine e_iload_n (pc := 10) g 1 dX10_level_10 rfl ?_
  refine e_iald (pc := 11) g sh_75 o1 dX10_level_11 ?_
  refine e_aload_n (pc := 12) g 0 dX10_level_12 rfl ?_
  refine e_getR (pc := 13) g 73 fl_X10_7 sh_72 rfl dX10_level_13 ?_
  refine e_iload_n (pc := 16) g 1 dX10_level_16 rfl ?_
  refine e_iald (pc := 17) g sh_73 o1 dX10_level_17 ?_
  obtain ⟨o2, h⟩ := h
  refine e_idiv (pc := 18) g dX10_level_18 o2 ?_
  refine e_iadd (pc := 19) g dX10_level_19 ?_
  exact e_iret (pc := 20) g gr rfl dX10_level_20 h
set_option maxHeartbeats 4000000 in
set_option maxRecDepth 100000 in
theorem b_X10_breach_0 {G : GC} {n : Nat} {r : Option Value} {M' : MM} (g : Good G mX10_breach n) (gr : GoodR G r M') (hn : 2 ≤ n) (a1 : Int32)   (M : MM) (h : (∃ (r3 : Int32) (M1 : MM), Fn 1 mX10_level [.ref 72, .int a1] M (some (.int r3)) M1 ∧ (vp_in a1 6) ∧ ((((M1.1 76 a1.toNatClampNeg) : Int32) ≤ r3 → ((r3 ≤ ((M1.1 77 a1.toNatClampNeg) : Int32) → (r = some (.int 0) ∧ M' = M1)) ∧ (¬ (r3 ≤ ((M1.1 77 a1.toNatClampNeg) : Int32)) → (r = some (.int (r3 - (M1.1 77 a1.toNatClampNeg))) ∧ M' = M1)))) ∧ (¬ (((M1.1 76 a1.toNatClampNeg) : Int32) ≤ r3) → (r = some (.int ((M1.1 76 a1.toNatClampNeg) - r3)) ∧ M' = M1))))) : Ev G 0 [(0, .ref 72), (1, .int a1)] [] M := by
  refine e_aload_n (pc := 0) g 0 dX10_breach_0 rfl ?_
  refine e_iload_n (pc := 1) g 1 dX10_breach_1 rfl ?_
  obtain ⟨r3, M1, f2, h⟩ := h
  refine e_callV (As := [.int a1]) (S := []) (pc := 2) g ok_X10_level ml_X10_137 sh_72 ⟨_, rfl, rfl⟩ f2 (by omega) rfl (Nat.le_of_ble_eq_true rfl) dX10_breach_2 ?_
  refine e_to (S' := [.int r3]) rfl rfl rfl ?_
  refine e_istore_n (pc := 5) g [(0, .ref 72), (1, .int a1), (2, .int r3)] dX10_breach_5 (by decide) rfl ?_
  refine e_iload_n (pc := 6) g 2 dX10_breach_6 rfl ?_
  refine e_aload_n (pc := 7) g 0 dX10_breach_7 rfl ?_
  refine e_getR (pc := 8) g 76 fl_X10_19 sh_72 rfl dX10_breach_8 ?_
  refine e_iload_n (pc := 11) g 1 dX10_breach_11 rfl ?_
  obtain ⟨o4, h⟩ := h
  refine e_iald (pc := 12) g sh_76 o4 dX10_breach_12 ?_
  refine e_icmp_ge (pc := 13) g 27 dX10_breach_13 (by decide) (fun c5 => ?_) (fun c5 => ?_)
  · have h := h.1 c5
    refine e_iload_n (pc := 27) g 2 dX10_breach_27 rfl ?_
    refine e_aload_n (pc := 28) g 0 dX10_breach_28 rfl ?_
    refine e_getR (pc := 29) g 77 fl_X10_22 sh_72 rfl dX10_breach_29 ?_
    refine e_iload_n (pc := 32) g 1 dX10_breach_32 rfl ?_
    refine e_iald (pc := 33) g sh_77 o4 dX10_breach_33 ?_
    refine e_icmp_le (pc := 34) g 48 dX10_breach_34 (by decide) (fun c6 => ?_) (fun c6 => ?_)
    · have h := h.1 c6
      refine e_iconst (pc := 48) g 0 dX10_breach_48 kc_0 ?_
      exact e_iret (pc := 49) g gr rfl dX10_breach_49 h
    · have h := h.2 c6
      refine e_iload_n (pc := 37) g 2 dX10_breach_37 rfl ?_
      refine e_aload_n (pc := 38) g 0 dX10_breach_38 rfl ?_
      refine e_getR (pc := 39) g 77 fl_X10_22 sh_72 rfl dX10_breach_39 ?_
      refine e_iload_n (pc := 42) g 1 dX10_breach_42 rfl ?_
      refine e_iald (pc := 43) g sh_77 o4 dX10_breach_43 ?_
      refine e_isub (pc := 44) g dX10_breach_44 ?_
      refine e_goto (pc := 45) g 49 dX10_breach_45 (by decide) ?_
      exact e_iret (pc := 49) g gr rfl dX10_breach_49 h
  · have h := h.2 c5
    refine e_aload_n (pc := 16) g 0 dX10_breach_16 rfl ?_
    refine e_getR (pc := 17) g 76 fl_X10_19 sh_72 rfl dX10_breach_17 ?_
    refine e_iload_n (pc := 20) g 1 dX10_breach_20 rfl ?_
    refine e_iald (pc := 21) g sh_76 o4 dX10_breach_21 ?_
    refine e_iload_n (pc := 22) g 2 dX10_breach_22 rfl ?_
    refine e_isub (pc := 23) g dX10_breach_23 ?_
    refine e_goto (pc := 24) g 49 dX10_breach_24 (by decide) ?_
    exact e_iret (pc := 49) g gr rfl dX10_breach_49 h
set_option maxHeartbeats 4000000 in
set_option maxRecDepth 100000 in
theorem b_X10_told_0 {G : GC} {n : Nat} {r : Option Value} {M' : MM} (g : Good G mX10_told n) (gr : GoodR G r M') (hn : 3 ≤ n) (a1 : Int32) (a2 : Int32)   (M : MM) (h : (∃ (r3 : Int32) (M1 : MM), Fn 2 mX10_isDitch [.ref 72, .int a1] M (some (.int r3)) M1 ∧ ((r3 = (0 : Int32) → (r = some (.int (-1000000)) ∧ M' = M1)) ∧ (¬ (r3 = (0 : Int32)) → (∃ (r7 : Int32) (M5 : MM), Fn 1 mX10_in [.long (a2.toInt64), .long 0, .long 4] M1 (some (.int r7)) M5 ∧ ((¬ r7 = (0 : Int32) → ((¬ a2 = (0 : Int32) → ((¬ a2 = (1 : Int32) → ((¬ a2 = (2 : Int32) → ((¬ a2 = (3 : Int32) → (vp_in a1 6) ∧ (r = some (.int (M5.1 79 a1.toNatClampNeg)) ∧ M' = M5)) ∧ (a2 = (3 : Int32) → (vp_in a1 6) ∧ (r = some (.int (M5.1 78 a1.toNatClampNeg)) ∧ M' = M5)))) ∧ (a2 = (2 : Int32) → (∃ (r17 : Int32) (M15 : MM), Fn 2 mX10_breach [.ref 72, .int a1] M5 (some (.int r17)) M15 ∧ (r = some (.int r17) ∧ M' = M15))))) ∧ (a2 = (1 : Int32) → (∃ (r20 : Int32) (M18 : MM), Fn 1 mX10_level [.ref 72, .int a1] M5 (some (.int r20)) M18 ∧ (r = some (.int r20) ∧ M' = M18))))) ∧ (a2 = (0 : Int32) → (vp_in a1 6) ∧ (r = some (.int (M5.1 75 a1.toNatClampNeg)) ∧ M' = M5)))) ∧ (r7 = (0 : Int32) → (r = some (.int (-1000000)) ∧ M' = M5)))))))) : Ev G 0 [(0, .ref 72), (1, .int a1), (2, .int a2)] [] M := by
  refine e_aload_n (pc := 0) g 0 dX10_told_0 rfl ?_
  refine e_iload_n (pc := 1) g 1 dX10_told_1 rfl ?_
  obtain ⟨r3, M1, f2, h⟩ := h
  refine e_callV (As := [.int a1]) (S := []) (pc := 2) g ok_X10_isDitch ml_X10_129 sh_72 ⟨_, rfl, rfl⟩ f2 (by omega) rfl (Nat.le_of_ble_eq_true rfl) dX10_told_2 ?_
  refine e_to (S' := [.int r3]) rfl rfl rfl ?_
  refine e_if_eq (pc := 5) g 20 dX10_told_5 (by decide) (fun c4 => ?_) (fun c4 => ?_)
  · have h := h.1 c4
    refine e_ldc (pc := 20) g (-1000000) kc_X10_143 dX10_told_20 ?_
    exact e_iret (pc := 22) g gr rfl dX10_told_22 h
  · have h := h.2 c4
    refine e_iload_n (pc := 8) g 2 dX10_told_8 rfl ?_
    refine e_i2l (pc := 9) g dX10_told_9 ?_
    refine e_lconst (pc := 10) g 0 dX10_told_10 kl_0 ?_
    refine e_ldc2 (pc := 11) g 4 kl_X10_141 dX10_told_11 ?_
    obtain ⟨r7, M5, f6, h⟩ := h
    refine e_callS (As := [.long (a2.toInt64), .long 0, .long 4]) (S := []) (pc := 14) g ok_X10_in ml_X10_117 f6 (by omega) rfl (Nat.le_of_ble_eq_true rfl) dX10_told_14 ?_
    refine e_to (S' := [.int r7]) rfl rfl rfl ?_
    refine e_if_ne (pc := 17) g 23 dX10_told_17 (by decide) (fun c8 => ?_) (fun c8 => ?_)
    · have h := h.1 c8
      refine e_iload_n (pc := 23) g 2 dX10_told_23 rfl ?_
      refine e_if_ne (pc := 24) g 36 dX10_told_24 (by decide) (fun c9 => ?_) (fun c9 => ?_)
      · have h := h.1 c9
        refine e_iload_n (pc := 36) g 2 dX10_told_36 rfl ?_
        refine e_iconst (pc := 37) g 1 dX10_told_37 kc_1 ?_
        refine e_icmp_ne (pc := 38) g 49 dX10_told_38 (by decide) (fun c10 => ?_) (fun c10 => ?_)
        · have h := h.1 c10
          refine e_iload_n (pc := 49) g 2 dX10_told_49 rfl ?_
          refine e_iconst (pc := 50) g 2 dX10_told_50 kc_2 ?_
          refine e_icmp_ne (pc := 51) g 62 dX10_told_51 (by decide) (fun c11 => ?_) (fun c11 => ?_)
          · have h := h.1 c11
            refine e_iload_n (pc := 62) g 2 dX10_told_62 rfl ?_
            refine e_iconst (pc := 63) g 3 dX10_told_63 kc_3 ?_
            refine e_icmp_ne (pc := 64) g 76 dX10_told_64 (by decide) (fun c12 => ?_) (fun c12 => ?_)
            · have h := h.1 c12
              refine e_aload_n (pc := 76) g 0 dX10_told_76 rfl ?_
              refine e_getR (pc := 77) g 79 fl_X10_28 sh_72 rfl dX10_told_77 ?_
              refine e_iload_n (pc := 80) g 1 dX10_told_80 rfl ?_
              obtain ⟨o13, h⟩ := h
              refine e_iald (pc := 81) g sh_79 o13 dX10_told_81 ?_
              exact e_iret (pc := 82) g gr rfl dX10_told_82 h
            · have h := h.2 c12
              refine e_aload_n (pc := 67) g 0 dX10_told_67 rfl ?_
              refine e_getR (pc := 68) g 78 fl_X10_25 sh_72 rfl dX10_told_68 ?_
              refine e_iload_n (pc := 71) g 1 dX10_told_71 rfl ?_
              obtain ⟨o14, h⟩ := h
              refine e_iald (pc := 72) g sh_78 o14 dX10_told_72 ?_
              refine e_goto (pc := 73) g 82 dX10_told_73 (by decide) ?_
              exact e_iret (pc := 82) g gr rfl dX10_told_82 h
          · have h := h.2 c11
            refine e_aload_n (pc := 54) g 0 dX10_told_54 rfl ?_
            refine e_iload_n (pc := 55) g 1 dX10_told_55 rfl ?_
            obtain ⟨r17, M15, f16, h⟩ := h
            refine e_callV (As := [.int a1]) (S := []) (pc := 56) g ok_X10_breach ml_X10_144 sh_72 ⟨_, rfl, rfl⟩ f16 (by omega) rfl (Nat.le_of_ble_eq_true rfl) dX10_told_56 ?_
            refine e_to (S' := [.int r17]) rfl rfl rfl ?_
            refine e_goto (pc := 59) g 82 dX10_told_59 (by decide) ?_
            exact e_iret (pc := 82) g gr rfl dX10_told_82 h
        · have h := h.2 c10
          refine e_aload_n (pc := 41) g 0 dX10_told_41 rfl ?_
          refine e_iload_n (pc := 42) g 1 dX10_told_42 rfl ?_
          obtain ⟨r20, M18, f19, h⟩ := h
          refine e_callV (As := [.int a1]) (S := []) (pc := 43) g ok_X10_level ml_X10_137 sh_72 ⟨_, rfl, rfl⟩ f19 (by omega) rfl (Nat.le_of_ble_eq_true rfl) dX10_told_43 ?_
          refine e_to (S' := [.int r20]) rfl rfl rfl ?_
          refine e_goto (pc := 46) g 82 dX10_told_46 (by decide) ?_
          exact e_iret (pc := 82) g gr rfl dX10_told_82 h
      · have h := h.2 c9
        refine e_aload_n (pc := 27) g 0 dX10_told_27 rfl ?_
        refine e_getR (pc := 28) g 75 fl_X10_16 sh_72 rfl dX10_told_28 ?_
        refine e_iload_n (pc := 31) g 1 dX10_told_31 rfl ?_
        obtain ⟨o21, h⟩ := h
        refine e_iald (pc := 32) g sh_75 o21 dX10_told_32 ?_
        refine e_goto (pc := 33) g 82 dX10_told_33 (by decide) ?_
        exact e_iret (pc := 82) g gr rfl dX10_told_82 h
    · have h := h.2 c8
      refine e_ldc (pc := 20) g (-1000000) kc_X10_143 dX10_told_20 ?_
      exact e_iret (pc := 22) g gr rfl dX10_told_22 h
set_option maxHeartbeats 4000000 in
set_option maxRecDepth 100000 in
theorem b_X10_weir_0 {G : GC} {n : Nat} {r : Option Value} {M' : MM} (g : Good G mX10_weir n) (gr : GoodR G r M') (hn : 3 ≤ n) (a1 : Int32) (a2 : Int32) (a3 : Int32) (a4 : Int32)   (M : MM) (h : (∃ (r3 : Int32) (M1 : MM), Fn 2 mX10_isDitch [.ref 72, .int a1] M (some (.int r3)) M1 ∧ ((r3 = (0 : Int32) → (r = some (.int (-1)) ∧ M' = M1)) ∧ (¬ (r3 = (0 : Int32)) → (∃ (r7 : Int32) (M5 : MM), Fn 2 mX10_isDitch [.ref 72, .int a2] M1 (some (.int r7)) M5 ∧ ((r7 = (0 : Int32) → (r = some (.int (-1)) ∧ M' = M5)) ∧ (¬ (r7 = (0 : Int32)) → ((a1 = (a2 : Int32) → (r = some (.int (-1)) ∧ M' = M5)) ∧ (¬ (a1 = (a2 : Int32)) → (∃ (r12 : Int32) (M10 : MM), Fn 1 mX10_in [.long (a3.toInt64), .long (-500), .long 500] M5 (some (.int r12)) M10 ∧ ((r12 = (0 : Int32) → (r = some (.int (-1)) ∧ M' = M10)) ∧ (¬ (r12 = (0 : Int32)) → (∃ (r16 : Int32) (M14 : MM), Fn 1 mX10_in [.long (a4.toInt64), .long 1, .long 50] M10 (some (.int r16)) M14 ∧ ((¬ r16 = (0 : Int32) → ((¬ (M14.1 72 8) = (8 : Int32) → (vp_in (M14.1 72 8) 8) ∧ (∀ M20 : MM, M20 = ui M14 80 (M14.1 72 8).toNatClampNeg a1 → (vp_in (M20.1 72 8) 8) ∧ (∀ M22 : MM, M22 = ui M20 81 (M20.1 72 8).toNatClampNeg a2 → (vp_in (M22.1 72 8) 8) ∧ (∀ M24 : MM, M24 = ui M22 82 (M22.1 72 8).toNatClampNeg a3 → (vp_in (M24.1 72 8) 8) ∧ (∀ M26 : MM, M26 = ui M24 83 (M24.1 72 8).toNatClampNeg a4 → (∀ M27 : MM, M27 = ui M26 72 8 ((M26.1 72 8) + 1) → (r = some (.int ((M27.1 72 8) - 1)) ∧ M' = M27))))))) ∧ ((M14.1 72 8) = (8 : Int32) → (r = some (.int (-3)) ∧ M' = M14)))) ∧ (r16 = (0 : Int32) → (r = some (.int (-1)) ∧ M' = M14)))))))))))))))) : Ev G 0 [(0, .ref 72), (1, .int a1), (2, .int a2), (3, .int a3), (4, .int a4)] [] M := by
  refine e_aload_n (pc := 0) g 0 dX10_weir_0 rfl ?_
  refine e_iload_n (pc := 1) g 1 dX10_weir_1 rfl ?_
  obtain ⟨r3, M1, f2, h⟩ := h
  refine e_callV (As := [.int a1]) (S := []) (pc := 2) g ok_X10_isDitch ml_X10_129 sh_72 ⟨_, rfl, rfl⟩ f2 (by omega) rfl (Nat.le_of_ble_eq_true rfl) dX10_weir_2 ?_
  refine e_to (S' := [.int r3]) rfl rfl rfl ?_
  refine e_if_eq (pc := 5) g 48 dX10_weir_5 (by decide) (fun c4 => ?_) (fun c4 => ?_)
  · have h := h.1 c4
    refine e_iconst (pc := 48) g (-1) dX10_weir_48 kc_m1 ?_
    exact e_iret (pc := 49) g gr rfl dX10_weir_49 h
  · have h := h.2 c4
    refine e_aload_n (pc := 8) g 0 dX10_weir_8 rfl ?_
    refine e_iload_n (pc := 9) g 2 dX10_weir_9 rfl ?_
    obtain ⟨r7, M5, f6, h⟩ := h
    refine e_callV (As := [.int a2]) (S := []) (pc := 10) g ok_X10_isDitch ml_X10_129 sh_72 ⟨_, rfl, rfl⟩ f6 (by omega) rfl (Nat.le_of_ble_eq_true rfl) dX10_weir_10 ?_
    refine e_to (S' := [.int r7]) rfl rfl rfl ?_
    refine e_if_eq (pc := 13) g 48 dX10_weir_13 (by decide) (fun c8 => ?_) (fun c8 => ?_)
    · have h := h.1 c8
      refine e_iconst (pc := 48) g (-1) dX10_weir_48 kc_m1 ?_
      exact e_iret (pc := 49) g gr rfl dX10_weir_49 h
    · have h := h.2 c8
      refine e_iload_n (pc := 16) g 1 dX10_weir_16 rfl ?_
      refine e_iload_n (pc := 17) g 2 dX10_weir_17 rfl ?_
      refine e_icmp_eq (pc := 18) g 48 dX10_weir_18 (by decide) (fun c9 => ?_) (fun c9 => ?_)
      · have h := h.1 c9
        refine e_iconst (pc := 48) g (-1) dX10_weir_48 kc_m1 ?_
        exact e_iret (pc := 49) g gr rfl dX10_weir_49 h
      · have h := h.2 c9
        refine e_iload_n (pc := 21) g 3 dX10_weir_21 rfl ?_
        refine e_i2l (pc := 22) g dX10_weir_22 ?_
        refine e_ldc2 (pc := 23) g (-500) kl_X10_123 dX10_weir_23 ?_
        refine e_ldc2 (pc := 26) g 500 kl_X10_125 dX10_weir_26 ?_
        obtain ⟨r12, M10, f11, h⟩ := h
        refine e_callS (As := [.long (a3.toInt64), .long (-500), .long 500]) (S := []) (pc := 29) g ok_X10_in ml_X10_117 f11 (by omega) rfl (Nat.le_of_ble_eq_true rfl) dX10_weir_29 ?_
        refine e_to (S' := [.int r12]) rfl rfl rfl ?_
        refine e_if_eq (pc := 32) g 48 dX10_weir_32 (by decide) (fun c13 => ?_) (fun c13 => ?_)
        · have h := h.1 c13
          refine e_iconst (pc := 48) g (-1) dX10_weir_48 kc_m1 ?_
          exact e_iret (pc := 49) g gr rfl dX10_weir_49 h
        · have h := h.2 c13
          refine e_iload (pc := 35) g 4 dX10_weir_35 rfl ?_
          refine e_i2l (pc := 37) g dX10_weir_37 ?_
          refine e_lconst (pc := 38) g 1 dX10_weir_38 kl_1 ?_
          refine e_ldc2 (pc := 39) g 50 kl_X10_121 dX10_weir_39 ?_
          obtain ⟨r16, M14, f15, h⟩ := h
          refine e_callS (As := [.long (a4.toInt64), .long 1, .long 50]) (S := []) (pc := 42) g ok_X10_in ml_X10_117 f15 (by omega) rfl (Nat.le_of_ble_eq_true rfl) dX10_weir_42 ?_
          refine e_to (S' := [.int r16]) rfl rfl rfl ?_
          refine e_if_ne (pc := 45) g 50 dX10_weir_45 (by decide) (fun c17 => ?_) (fun c17 => ?_)
          · have h := h.1 c17
            refine e_aload_n (pc := 50) g 0 dX10_weir_50 rfl ?_
            refine e_getI (pc := 51) g fl_X10_147 sh_72 rfl dX10_weir_51 ?_
            refine e_bipush (pc := 54) g 8 dX10_weir_54 kb_8 ?_
            refine e_icmp_ne (pc := 56) g 62 dX10_weir_56 (by decide) (fun c18 => ?_) (fun c18 => ?_)
            · have h := h.1 c18
              refine e_aload_n (pc := 62) g 0 dX10_weir_62 rfl ?_
              refine e_getR (pc := 63) g 80 fl_X10_31 sh_72 rfl dX10_weir_63 ?_
              refine e_aload_n (pc := 66) g 0 dX10_weir_66 rfl ?_
              refine e_getI (pc := 67) g fl_X10_147 sh_72 rfl dX10_weir_67 ?_
              refine e_iload_n (pc := 70) g 1 dX10_weir_70 rfl ?_
              obtain ⟨o19, h⟩ := h
              refine e_iast (pc := 71) g sh_80 o19 dX10_weir_71 ?_
              obtain ⟨M20, qM20⟩ : ∃ y : MM, y = ui M14 80 (M14.1 72 8).toNatClampNeg a1 := ⟨_, rfl⟩
              have h := h M20 qM20
              refine e_to (M' := M20) rfl rfl (by rw [qM20]) ?_
              refine e_aload_n (pc := 72) g 0 dX10_weir_72 rfl ?_
              refine e_getR (pc := 73) g 81 fl_X10_34 sh_72 rfl dX10_weir_73 ?_
              refine e_aload_n (pc := 76) g 0 dX10_weir_76 rfl ?_
              refine e_getI (pc := 77) g fl_X10_147 sh_72 rfl dX10_weir_77 ?_
              refine e_iload_n (pc := 80) g 2 dX10_weir_80 rfl ?_
              obtain ⟨o21, h⟩ := h
              refine e_iast (pc := 81) g sh_81 o21 dX10_weir_81 ?_
              obtain ⟨M22, qM22⟩ : ∃ y : MM, y = ui M20 81 (M20.1 72 8).toNatClampNeg a2 := ⟨_, rfl⟩
              have h := h M22 qM22
              refine e_to (M' := M22) rfl rfl (by rw [qM22]) ?_
              refine e_aload_n (pc := 82) g 0 dX10_weir_82 rfl ?_
              refine e_getR (pc := 83) g 82 fl_X10_37 sh_72 rfl dX10_weir_83 ?_
              refine e_aload_n (pc := 86) g 0 dX10_weir_86 rfl ?_
              refine e_getI (pc := 87) g fl_X10_147 sh_72 rfl dX10_weir_87 ?_
              refine e_iload_n (pc := 90) g 3 dX10_weir_90 rfl ?_
              obtain ⟨o23, h⟩ := h
              refine e_iast (pc := 91) g sh_82 o23 dX10_weir_91 ?_
              obtain ⟨M24, qM24⟩ : ∃ y : MM, y = ui M22 82 (M22.1 72 8).toNatClampNeg a3 := ⟨_, rfl⟩
              have h := h M24 qM24
              refine e_to (M' := M24) rfl rfl (by rw [qM24]) ?_
              refine e_aload_n (pc := 92) g 0 dX10_weir_92 rfl ?_
              refine e_getR (pc := 93) g 83 fl_X10_40 sh_72 rfl dX10_weir_93 ?_
              refine e_aload_n (pc := 96) g 0 dX10_weir_96 rfl ?_
              refine e_getI (pc := 97) g fl_X10_147 sh_72 rfl dX10_weir_97 ?_
              refine e_iload (pc := 100) g 4 dX10_weir_100 rfl ?_
              obtain ⟨o25, h⟩ := h
              refine e_iast (pc := 102) g sh_83 o25 dX10_weir_102 ?_
              obtain ⟨M26, qM26⟩ : ∃ y : MM, y = ui M24 83 (M24.1 72 8).toNatClampNeg a4 := ⟨_, rfl⟩
              have h := h M26 qM26
              refine e_to (M' := M26) rfl rfl (by rw [qM26]) ?_
              refine e_aload_n (pc := 103) g 0 dX10_weir_103 rfl ?_
              refine e_dup (pc := 104) g dX10_weir_104 rfl ?_
              refine e_getI (pc := 105) g fl_X10_147 sh_72 rfl dX10_weir_105 ?_
              refine e_iconst (pc := 108) g 1 dX10_weir_108 kc_1 ?_
              refine e_iadd (pc := 109) g dX10_weir_109 ?_
              refine e_putI (pc := 110) g fw_X10_147 sh_72 rfl dX10_weir_110 ?_
              obtain ⟨M27, qM27⟩ : ∃ y : MM, y = ui M26 72 8 ((M26.1 72 8) + 1) := ⟨_, rfl⟩
              have h := h M27 qM27
              refine e_to (M' := M27) rfl rfl (by rw [qM27]) ?_
              refine e_aload_n (pc := 113) g 0 dX10_weir_113 rfl ?_
              refine e_getI (pc := 114) g fl_X10_147 sh_72 rfl dX10_weir_114 ?_
              refine e_iconst (pc := 117) g 1 dX10_weir_117 kc_1 ?_
              refine e_isub (pc := 118) g dX10_weir_118 ?_
              exact e_iret (pc := 119) g gr rfl dX10_weir_119 h
            · have h := h.2 c18
              refine e_bipush (pc := 59) g (-3) dX10_weir_59 kb_m3 ?_
              exact e_iret (pc := 61) g gr rfl dX10_weir_61 h
          · have h := h.2 c17
            refine e_iconst (pc := 48) g (-1) dX10_weir_48 kc_m1 ?_
            exact e_iret (pc := 49) g gr rfl dX10_weir_49 h
set_option maxHeartbeats 4000000 in
set_option maxRecDepth 100000 in
theorem b_X10_pump_0 {G : GC} {n : Nat} {r : Option Value} {M' : MM} (g : Good G mX10_pump n) (gr : GoodR G r M') (hn : 3 ≤ n) (a1 : Int32) (a2 : Int32) (a3 : Int32) (a4 : Int32) (a5 : Int32)   (M : MM) (h : (∃ (r3 : Int32) (M1 : MM), Fn 2 mX10_isDitch [.ref 72, .int a1] M (some (.int r3)) M1 ∧ ((r3 = (0 : Int32) → (r = some (.int (-1)) ∧ M' = M1)) ∧ (¬ (r3 = (0 : Int32)) → ((a2 = ((-4) : Int32) → ((a1 = (a2 : Int32) → (r = some (.int (-1)) ∧ M' = M1)) ∧ (¬ (a1 = (a2 : Int32)) → (∃ (r9 : Int32) (M7 : MM), Fn 1 mX10_in [.long (a3.toInt64), .long 1, .long 1000] M1 (some (.int r9)) M7 ∧ ((r9 = (0 : Int32) → (r = some (.int (-1)) ∧ M' = M7)) ∧ (¬ (r9 = (0 : Int32)) → (∃ (r13 : Int32) (M11 : MM), Fn 1 mX10_in [.long (a4.toInt64), .long 1, .long 6] M7 (some (.int r13)) M11 ∧ ((r13 = (0 : Int32) → (r = some (.int (-1)) ∧ M' = M11)) ∧ (¬ (r13 = (0 : Int32)) → (∃ (r17 : Int32) (M15 : MM), Fn 1 mX10_in [.long (a5.toInt64), .long 0, .long 16777215] M11 (some (.int r17)) M15 ∧ ((¬ r17 = (0 : Int32) → ((¬ (M15.1 72 13) = (4 : Int32) → (vp_in (M15.1 72 13) 4) ∧ (∀ M21 : MM, M21 = ui M15 84 (M15.1 72 13).toNatClampNeg a1 → (vp_in (M21.1 72 13) 4) ∧ (∀ M23 : MM, M23 = ui M21 85 (M21.1 72 13).toNatClampNeg a2 → (vp_in (M23.1 72 13) 4) ∧ (∀ M25 : MM, M25 = ui M23 86 (M23.1 72 13).toNatClampNeg a3 → (vp_in (M25.1 72 13) 4) ∧ (∀ M27 : MM, M27 = ui M25 87 (M25.1 72 13).toNatClampNeg a4 → (vp_in (M27.1 72 13) 4) ∧ (∀ M29 : MM, M29 = ui M27 88 (M27.1 72 13).toNatClampNeg a5 → (vp_in (M29.1 72 13) 4) ∧ (∀ M31 : MM, M31 = ui M29 89 (M29.1 72 13).toNatClampNeg (vp_nar .boolean 0) → (∀ M32 : MM, M32 = ui M31 72 13 ((M31.1 72 13) + 1) → (r = some (.int ((M32.1 72 13) - 1)) ∧ M' = M32))))))))) ∧ ((M15.1 72 13) = (4 : Int32) → (r = some (.int (-3)) ∧ M' = M15)))) ∧ (r17 = (0 : Int32) → (r = some (.int (-1)) ∧ M' = M15))))))))))))) ∧ (¬ (a2 = ((-4) : Int32)) → (∃ (r35 : Int32) (M33 : MM), Fn 2 mX10_isDitch [.ref 72, .int a2] M1 (some (.int r35)) M33 ∧ ((r35 = (0 : Int32) → (r = some (.int (-1)) ∧ M' = M33)) ∧ (¬ (r35 = (0 : Int32)) → ((a1 = (a2 : Int32) → (r = some (.int (-1)) ∧ M' = M33)) ∧ (¬ (a1 = (a2 : Int32)) → (∃ (r40 : Int32) (M38 : MM), Fn 1 mX10_in [.long (a3.toInt64), .long 1, .long 1000] M33 (some (.int r40)) M38 ∧ ((r40 = (0 : Int32) → (r = some (.int (-1)) ∧ M' = M38)) ∧ (¬ (r40 = (0 : Int32)) → (∃ (r44 : Int32) (M42 : MM), Fn 1 mX10_in [.long (a4.toInt64), .long 1, .long 6] M38 (some (.int r44)) M42 ∧ ((r44 = (0 : Int32) → (r = some (.int (-1)) ∧ M' = M42)) ∧ (¬ (r44 = (0 : Int32)) → (∃ (r48 : Int32) (M46 : MM), Fn 1 mX10_in [.long (a5.toInt64), .long 0, .long 16777215] M42 (some (.int r48)) M46 ∧ ((¬ r48 = (0 : Int32) → ((¬ (M46.1 72 13) = (4 : Int32) → (vp_in (M46.1 72 13) 4) ∧ (∀ M52 : MM, M52 = ui M46 84 (M46.1 72 13).toNatClampNeg a1 → (vp_in (M52.1 72 13) 4) ∧ (∀ M54 : MM, M54 = ui M52 85 (M52.1 72 13).toNatClampNeg a2 → (vp_in (M54.1 72 13) 4) ∧ (∀ M56 : MM, M56 = ui M54 86 (M54.1 72 13).toNatClampNeg a3 → (vp_in (M56.1 72 13) 4) ∧ (∀ M58 : MM, M58 = ui M56 87 (M56.1 72 13).toNatClampNeg a4 → (vp_in (M58.1 72 13) 4) ∧ (∀ M60 : MM, M60 = ui M58 88 (M58.1 72 13).toNatClampNeg a5 → (vp_in (M60.1 72 13) 4) ∧ (∀ M62 : MM, M62 = ui M60 89 (M60.1 72 13).toNatClampNeg (vp_nar .boolean 0) → (∀ M63 : MM, M63 = ui M62 72 13 ((M62.1 72 13) + 1) → (r = some (.int ((M63.1 72 13) - 1)) ∧ M' = M63))))))))) ∧ ((M46.1 72 13) = (4 : Int32) → (r = some (.int (-3)) ∧ M' = M46)))) ∧ (r48 = (0 : Int32) → (r = some (.int (-1)) ∧ M' = M46))))))))))))))))))))) : Ev G 0 [(0, .ref 72), (1, .int a1), (2, .int a2), (3, .int a3), (4, .int a4), (5, .int a5)] [] M := by
  refine e_aload_n (pc := 0) g 0 dX10_pump_0 rfl ?_
  refine e_iload_n (pc := 1) g 1 dX10_pump_1 rfl ?_
  obtain ⟨r3, M1, f2, h⟩ := h
  refine e_callV (As := [.int a1]) (S := []) (pc := 2) g ok_X10_isDitch ml_X10_129 sh_72 ⟨_, rfl, rfl⟩ f2 (by omega) rfl (Nat.le_of_ble_eq_true rfl) dX10_pump_2 ?_
  refine e_to (S' := [.int r3]) rfl rfl rfl ?_
  refine e_if_eq (pc := 5) g 65 dX10_pump_5 (by decide) (fun c4 => ?_) (fun c4 => ?_)
  · have h := h.1 c4
    refine e_iconst (pc := 65) g (-1) dX10_pump_65 kc_m1 ?_
    exact e_iret (pc := 66) g gr rfl dX10_pump_66 h
  · have h := h.2 c4
    refine e_iload_n (pc := 8) g 2 dX10_pump_8 rfl ?_
    refine e_bipush (pc := 9) g (-4) dX10_pump_9 kb_m4 ?_
    refine e_icmp_eq (pc := 11) g 22 dX10_pump_11 (by decide) (fun c5 => ?_) (fun c5 => ?_)
    · have h := h.1 c5
      refine e_iload_n (pc := 22) g 1 dX10_pump_22 rfl ?_
      refine e_iload_n (pc := 23) g 2 dX10_pump_23 rfl ?_
      refine e_icmp_eq (pc := 24) g 65 dX10_pump_24 (by decide) (fun c6 => ?_) (fun c6 => ?_)
      · have h := h.1 c6
        refine e_iconst (pc := 65) g (-1) dX10_pump_65 kc_m1 ?_
        exact e_iret (pc := 66) g gr rfl dX10_pump_66 h
      · have h := h.2 c6
        refine e_iload_n (pc := 27) g 3 dX10_pump_27 rfl ?_
        refine e_i2l (pc := 28) g dX10_pump_28 ?_
        refine e_lconst (pc := 29) g 1 dX10_pump_29 kl_1 ?_
        refine e_ldc2 (pc := 30) g 1000 kl_X10_135 dX10_pump_30 ?_
        obtain ⟨r9, M7, f8, h⟩ := h
        refine e_callS (As := [.long (a3.toInt64), .long 1, .long 1000]) (S := []) (pc := 33) g ok_X10_in ml_X10_117 f8 (by omega) rfl (Nat.le_of_ble_eq_true rfl) dX10_pump_33 ?_
        refine e_to (S' := [.int r9]) rfl rfl rfl ?_
        refine e_if_eq (pc := 36) g 65 dX10_pump_36 (by decide) (fun c10 => ?_) (fun c10 => ?_)
        · have h := h.1 c10
          refine e_iconst (pc := 65) g (-1) dX10_pump_65 kc_m1 ?_
          exact e_iret (pc := 66) g gr rfl dX10_pump_66 h
        · have h := h.2 c10
          refine e_iload (pc := 39) g 4 dX10_pump_39 rfl ?_
          refine e_i2l (pc := 41) g dX10_pump_41 ?_
          refine e_lconst (pc := 42) g 1 dX10_pump_42 kl_1 ?_
          refine e_ldc2 (pc := 43) g 6 kl_X10_150 dX10_pump_43 ?_
          obtain ⟨r13, M11, f12, h⟩ := h
          refine e_callS (As := [.long (a4.toInt64), .long 1, .long 6]) (S := []) (pc := 46) g ok_X10_in ml_X10_117 f12 (by omega) rfl (Nat.le_of_ble_eq_true rfl) dX10_pump_46 ?_
          refine e_to (S' := [.int r13]) rfl rfl rfl ?_
          refine e_if_eq (pc := 49) g 65 dX10_pump_49 (by decide) (fun c14 => ?_) (fun c14 => ?_)
          · have h := h.1 c14
            refine e_iconst (pc := 65) g (-1) dX10_pump_65 kc_m1 ?_
            exact e_iret (pc := 66) g gr rfl dX10_pump_66 h
          · have h := h.2 c14
            refine e_iload (pc := 52) g 5 dX10_pump_52 rfl ?_
            refine e_i2l (pc := 54) g dX10_pump_54 ?_
            refine e_lconst (pc := 55) g 0 dX10_pump_55 kl_0 ?_
            refine e_ldc2 (pc := 56) g 16777215 kl_X10_152 dX10_pump_56 ?_
            obtain ⟨r17, M15, f16, h⟩ := h
            refine e_callS (As := [.long (a5.toInt64), .long 0, .long 16777215]) (S := []) (pc := 59) g ok_X10_in ml_X10_117 f16 (by omega) rfl (Nat.le_of_ble_eq_true rfl) dX10_pump_59 ?_
            refine e_to (S' := [.int r17]) rfl rfl rfl ?_
            refine e_if_ne (pc := 62) g 67 dX10_pump_62 (by decide) (fun c18 => ?_) (fun c18 => ?_)
            · have h := h.1 c18
              refine e_aload_n (pc := 67) g 0 dX10_pump_67 rfl ?_
              refine e_getI (pc := 68) g fl_X10_154 sh_72 rfl dX10_pump_68 ?_
              refine e_iconst (pc := 71) g 4 dX10_pump_71 kc_4 ?_
              refine e_icmp_ne (pc := 72) g 78 dX10_pump_72 (by decide) (fun c19 => ?_) (fun c19 => ?_)
              · have h := h.1 c19
                refine e_aload_n (pc := 78) g 0 dX10_pump_78 rfl ?_
                refine e_getR (pc := 79) g 84 fl_X10_43 sh_72 rfl dX10_pump_79 ?_
                refine e_aload_n (pc := 82) g 0 dX10_pump_82 rfl ?_
                refine e_getI (pc := 83) g fl_X10_154 sh_72 rfl dX10_pump_83 ?_
                refine e_iload_n (pc := 86) g 1 dX10_pump_86 rfl ?_
                obtain ⟨o20, h⟩ := h
                refine e_iast (pc := 87) g sh_84 o20 dX10_pump_87 ?_
                obtain ⟨M21, qM21⟩ : ∃ y : MM, y = ui M15 84 (M15.1 72 13).toNatClampNeg a1 := ⟨_, rfl⟩
                have h := h M21 qM21
                refine e_to (M' := M21) rfl rfl (by rw [qM21]) ?_
                refine e_aload_n (pc := 88) g 0 dX10_pump_88 rfl ?_
                refine e_getR (pc := 89) g 85 fl_X10_46 sh_72 rfl dX10_pump_89 ?_
                refine e_aload_n (pc := 92) g 0 dX10_pump_92 rfl ?_
                refine e_getI (pc := 93) g fl_X10_154 sh_72 rfl dX10_pump_93 ?_
                refine e_iload_n (pc := 96) g 2 dX10_pump_96 rfl ?_
                obtain ⟨o22, h⟩ := h
                refine e_iast (pc := 97) g sh_85 o22 dX10_pump_97 ?_
                obtain ⟨M23, qM23⟩ : ∃ y : MM, y = ui M21 85 (M21.1 72 13).toNatClampNeg a2 := ⟨_, rfl⟩
                have h := h M23 qM23
                refine e_to (M' := M23) rfl rfl (by rw [qM23]) ?_
                refine e_aload_n (pc := 98) g 0 dX10_pump_98 rfl ?_
                refine e_getR (pc := 99) g 86 fl_X10_49 sh_72 rfl dX10_pump_99 ?_
                refine e_aload_n (pc := 102) g 0 dX10_pump_102 rfl ?_
                refine e_getI (pc := 103) g fl_X10_154 sh_72 rfl dX10_pump_103 ?_
                refine e_iload_n (pc := 106) g 3 dX10_pump_106 rfl ?_
                obtain ⟨o24, h⟩ := h
                refine e_iast (pc := 107) g sh_86 o24 dX10_pump_107 ?_
                obtain ⟨M25, qM25⟩ : ∃ y : MM, y = ui M23 86 (M23.1 72 13).toNatClampNeg a3 := ⟨_, rfl⟩
                have h := h M25 qM25
                refine e_to (M' := M25) rfl rfl (by rw [qM25]) ?_
                refine e_aload_n (pc := 108) g 0 dX10_pump_108 rfl ?_
                refine e_getR (pc := 109) g 87 fl_X10_52 sh_72 rfl dX10_pump_109 ?_
                refine e_aload_n (pc := 112) g 0 dX10_pump_112 rfl ?_
                refine e_getI (pc := 113) g fl_X10_154 sh_72 rfl dX10_pump_113 ?_
                refine e_iload (pc := 116) g 4 dX10_pump_116 rfl ?_
                obtain ⟨o26, h⟩ := h
                refine e_iast (pc := 118) g sh_87 o26 dX10_pump_118 ?_
                obtain ⟨M27, qM27⟩ : ∃ y : MM, y = ui M25 87 (M25.1 72 13).toNatClampNeg a4 := ⟨_, rfl⟩
                have h := h M27 qM27
                refine e_to (M' := M27) rfl rfl (by rw [qM27]) ?_
                refine e_aload_n (pc := 119) g 0 dX10_pump_119 rfl ?_
                refine e_getR (pc := 120) g 88 fl_X10_55 sh_72 rfl dX10_pump_120 ?_
                refine e_aload_n (pc := 123) g 0 dX10_pump_123 rfl ?_
                refine e_getI (pc := 124) g fl_X10_154 sh_72 rfl dX10_pump_124 ?_
                refine e_iload (pc := 127) g 5 dX10_pump_127 rfl ?_
                obtain ⟨o28, h⟩ := h
                refine e_iast (pc := 129) g sh_88 o28 dX10_pump_129 ?_
                obtain ⟨M29, qM29⟩ : ∃ y : MM, y = ui M27 88 (M27.1 72 13).toNatClampNeg a5 := ⟨_, rfl⟩
                have h := h M29 qM29
                refine e_to (M' := M29) rfl rfl (by rw [qM29]) ?_
                refine e_aload_n (pc := 130) g 0 dX10_pump_130 rfl ?_
                refine e_getR (pc := 131) g 89 fl_X10_58 sh_72 rfl dX10_pump_131 ?_
                refine e_aload_n (pc := 134) g 0 dX10_pump_134 rfl ?_
                refine e_getI (pc := 135) g fl_X10_154 sh_72 rfl dX10_pump_135 ?_
                refine e_iconst (pc := 138) g 0 dX10_pump_138 kc_0 ?_
                obtain ⟨o30, h⟩ := h
                refine e_zast (pc := 139) g sh_89 o30 dX10_pump_139 ?_
                obtain ⟨M31, qM31⟩ : ∃ y : MM, y = ui M29 89 (M29.1 72 13).toNatClampNeg (vp_nar .boolean 0) := ⟨_, rfl⟩
                have h := h M31 qM31
                refine e_to (M' := M31) rfl rfl (by rw [qM31]) ?_
                refine e_aload_n (pc := 140) g 0 dX10_pump_140 rfl ?_
                refine e_dup (pc := 141) g dX10_pump_141 rfl ?_
                refine e_getI (pc := 142) g fl_X10_154 sh_72 rfl dX10_pump_142 ?_
                refine e_iconst (pc := 145) g 1 dX10_pump_145 kc_1 ?_
                refine e_iadd (pc := 146) g dX10_pump_146 ?_
                refine e_putI (pc := 147) g fw_X10_154 sh_72 rfl dX10_pump_147 ?_
                obtain ⟨M32, qM32⟩ : ∃ y : MM, y = ui M31 72 13 ((M31.1 72 13) + 1) := ⟨_, rfl⟩
                have h := h M32 qM32
                refine e_to (M' := M32) rfl rfl (by rw [qM32]) ?_
                refine e_aload_n (pc := 150) g 0 dX10_pump_150 rfl ?_
                refine e_getI (pc := 151) g fl_X10_154 sh_72 rfl dX10_pump_151 ?_
                refine e_iconst (pc := 154) g 1 dX10_pump_154 kc_1 ?_
                refine e_isub (pc := 155) g dX10_pump_155 ?_
                exact e_iret (pc := 156) g gr rfl dX10_pump_156 h
              · have h := h.2 c19
                refine e_bipush (pc := 75) g (-3) dX10_pump_75 kb_m3 ?_
                exact e_iret (pc := 77) g gr rfl dX10_pump_77 h
            · have h := h.2 c18
              refine e_iconst (pc := 65) g (-1) dX10_pump_65 kc_m1 ?_
              exact e_iret (pc := 66) g gr rfl dX10_pump_66 h
    · have h := h.2 c5
      refine e_aload_n (pc := 14) g 0 dX10_pump_14 rfl ?_
      refine e_iload_n (pc := 15) g 2 dX10_pump_15 rfl ?_
      obtain ⟨r35, M33, f34, h⟩ := h
      refine e_callV (As := [.int a2]) (S := []) (pc := 16) g ok_X10_isDitch ml_X10_129 sh_72 ⟨_, rfl, rfl⟩ f34 (by omega) rfl (Nat.le_of_ble_eq_true rfl) dX10_pump_16 ?_
      refine e_to (S' := [.int r35]) rfl rfl rfl ?_
      refine e_if_eq (pc := 19) g 65 dX10_pump_19 (by decide) (fun c36 => ?_) (fun c36 => ?_)
      · have h := h.1 c36
        refine e_iconst (pc := 65) g (-1) dX10_pump_65 kc_m1 ?_
        exact e_iret (pc := 66) g gr rfl dX10_pump_66 h
      · have h := h.2 c36
        refine e_iload_n (pc := 22) g 1 dX10_pump_22 rfl ?_
        refine e_iload_n (pc := 23) g 2 dX10_pump_23 rfl ?_
        refine e_icmp_eq (pc := 24) g 65 dX10_pump_24 (by decide) (fun c37 => ?_) (fun c37 => ?_)
        · have h := h.1 c37
          refine e_iconst (pc := 65) g (-1) dX10_pump_65 kc_m1 ?_
          exact e_iret (pc := 66) g gr rfl dX10_pump_66 h
        · have h := h.2 c37
          refine e_iload_n (pc := 27) g 3 dX10_pump_27 rfl ?_
          refine e_i2l (pc := 28) g dX10_pump_28 ?_
          refine e_lconst (pc := 29) g 1 dX10_pump_29 kl_1 ?_
          refine e_ldc2 (pc := 30) g 1000 kl_X10_135 dX10_pump_30 ?_
          obtain ⟨r40, M38, f39, h⟩ := h
          refine e_callS (As := [.long (a3.toInt64), .long 1, .long 1000]) (S := []) (pc := 33) g ok_X10_in ml_X10_117 f39 (by omega) rfl (Nat.le_of_ble_eq_true rfl) dX10_pump_33 ?_
          refine e_to (S' := [.int r40]) rfl rfl rfl ?_
          refine e_if_eq (pc := 36) g 65 dX10_pump_36 (by decide) (fun c41 => ?_) (fun c41 => ?_)
          · have h := h.1 c41
            refine e_iconst (pc := 65) g (-1) dX10_pump_65 kc_m1 ?_
            exact e_iret (pc := 66) g gr rfl dX10_pump_66 h
          · have h := h.2 c41
            refine e_iload (pc := 39) g 4 dX10_pump_39 rfl ?_
            refine e_i2l (pc := 41) g dX10_pump_41 ?_
            refine e_lconst (pc := 42) g 1 dX10_pump_42 kl_1 ?_
            refine e_ldc2 (pc := 43) g 6 kl_X10_150 dX10_pump_43 ?_
            obtain ⟨r44, M42, f43, h⟩ := h
            refine e_callS (As := [.long (a4.toInt64), .long 1, .long 6]) (S := []) (pc := 46) g ok_X10_in ml_X10_117 f43 (by omega) rfl (Nat.le_of_ble_eq_true rfl) dX10_pump_46 ?_
            refine e_to (S' := [.int r44]) rfl rfl rfl ?_
            refine e_if_eq (pc := 49) g 65 dX10_pump_49 (by decide) (fun c45 => ?_) (fun c45 => ?_)
            · have h := h.1 c45
              refine e_iconst (pc := 65) g (-1) dX10_pump_65 kc_m1 ?_
              exact e_iret (pc := 66) g gr rfl dX10_pump_66 h
            · have h := h.2 c45
              refine e_iload (pc := 52) g 5 dX10_pump_52 rfl ?_
              refine e_i2l (pc := 54) g dX10_pump_54 ?_
              refine e_lconst (pc := 55) g 0 dX10_pump_55 kl_0 ?_
              refine e_ldc2 (pc := 56) g 16777215 kl_X10_152 dX10_pump_56 ?_
              obtain ⟨r48, M46, f47, h⟩ := h
              refine e_callS (As := [.long (a5.toInt64), .long 0, .long 16777215]) (S := []) (pc := 59) g ok_X10_in ml_X10_117 f47 (by omega) rfl (Nat.le_of_ble_eq_true rfl) dX10_pump_59 ?_
              refine e_to (S' := [.int r48]) rfl rfl rfl ?_
              refine e_if_ne (pc := 62) g 67 dX10_pump_62 (by decide) (fun c49 => ?_) (fun c49 => ?_)
              · have h := h.1 c49
                refine e_aload_n (pc := 67) g 0 dX10_pump_67 rfl ?_
                refine e_getI (pc := 68) g fl_X10_154 sh_72 rfl dX10_pump_68 ?_
                refine e_iconst (pc := 71) g 4 dX10_pump_71 kc_4 ?_
                refine e_icmp_ne (pc := 72) g 78 dX10_pump_72 (by decide) (fun c50 => ?_) (fun c50 => ?_)
                · have h := h.1 c50
                  refine e_aload_n (pc := 78) g 0 dX10_pump_78 rfl ?_
                  refine e_getR (pc := 79) g 84 fl_X10_43 sh_72 rfl dX10_pump_79 ?_
                  refine e_aload_n (pc := 82) g 0 dX10_pump_82 rfl ?_
                  refine e_getI (pc := 83) g fl_X10_154 sh_72 rfl dX10_pump_83 ?_
                  refine e_iload_n (pc := 86) g 1 dX10_pump_86 rfl ?_
                  obtain ⟨o51, h⟩ := h
                  refine e_iast (pc := 87) g sh_84 o51 dX10_pump_87 ?_
                  obtain ⟨M52, qM52⟩ : ∃ y : MM, y = ui M46 84 (M46.1 72 13).toNatClampNeg a1 := ⟨_, rfl⟩
                  have h := h M52 qM52
                  refine e_to (M' := M52) rfl rfl (by rw [qM52]) ?_
                  refine e_aload_n (pc := 88) g 0 dX10_pump_88 rfl ?_
                  refine e_getR (pc := 89) g 85 fl_X10_46 sh_72 rfl dX10_pump_89 ?_
                  refine e_aload_n (pc := 92) g 0 dX10_pump_92 rfl ?_
                  refine e_getI (pc := 93) g fl_X10_154 sh_72 rfl dX10_pump_93 ?_
                  refine e_iload_n (pc := 96) g 2 dX10_pump_96 rfl ?_
                  obtain ⟨o53, h⟩ := h
                  refine e_iast (pc := 97) g sh_85 o53 dX10_pump_97 ?_
                  obtain ⟨M54, qM54⟩ : ∃ y : MM, y = ui M52 85 (M52.1 72 13).toNatClampNeg a2 := ⟨_, rfl⟩
                  have h := h M54 qM54
                  refine e_to (M' := M54) rfl rfl (by rw [qM54]) ?_
                  refine e_aload_n (pc := 98) g 0 dX10_pump_98 rfl ?_
                  refine e_getR (pc := 99) g 86 fl_X10_49 sh_72 rfl dX10_pump_99 ?_
                  refine e_aload_n (pc := 102) g 0 dX10_pump_102 rfl ?_
                  refine e_getI (pc := 103) g fl_X10_154 sh_72 rfl dX10_pump_103 ?_
                  refine e_iload_n (pc := 106) g 3 dX10_pump_106 rfl ?_
                  obtain ⟨o55, h⟩ := h
                  refine e_iast (pc := 107) g sh_86 o55 dX10_pump_107 ?_
                  obtain ⟨M56, qM56⟩ : ∃ y : MM, y = ui M54 86 (M54.1 72 13).toNatClampNeg a3 := ⟨_, rfl⟩
                  have h := h M56 qM56
                  refine e_to (M' := M56) rfl rfl (by rw [qM56]) ?_
                  refine e_aload_n (pc := 108) g 0 dX10_pump_108 rfl ?_
                  refine e_getR (pc := 109) g 87 fl_X10_52 sh_72 rfl dX10_pump_109 ?_
                  refine e_aload_n (pc := 112) g 0 dX10_pump_112 rfl ?_
                  refine e_getI (pc := 113) g fl_X10_154 sh_72 rfl dX10_pump_113 ?_
                  refine e_iload (pc := 116) g 4 dX10_pump_116 rfl ?_
                  obtain ⟨o57, h⟩ := h
                  refine e_iast (pc := 118) g sh_87 o57 dX10_pump_118 ?_
                  obtain ⟨M58, qM58⟩ : ∃ y : MM, y = ui M56 87 (M56.1 72 13).toNatClampNeg a4 := ⟨_, rfl⟩
                  have h := h M58 qM58
                  refine e_to (M' := M58) rfl rfl (by rw [qM58]) ?_
                  refine e_aload_n (pc := 119) g 0 dX10_pump_119 rfl ?_
                  refine e_getR (pc := 120) g 88 fl_X10_55 sh_72 rfl dX10_pump_120 ?_
                  refine e_aload_n (pc := 123) g 0 dX10_pump_123 rfl ?_
                  refine e_getI (pc := 124) g fl_X10_154 sh_72 rfl dX10_pump_124 ?_
                  refine e_iload (pc := 127) g 5 dX10_pump_127 rfl ?_
                  obtain ⟨o59, h⟩ := h
                  refine e_iast (pc := 129) g sh_88 o59 dX10_pump_129 ?_
                  obtain ⟨M60, qM60⟩ : ∃ y : MM, y = ui M58 88 (M58.1 72 13).toNatClampNeg a5 := ⟨_, rfl⟩
                  have h := h M60 qM60
                  refine e_to (M' := M60) rfl rfl (by rw [qM60]) ?_
                  refine e_aload_n (pc := 130) g 0 dX10_pump_130 rfl ?_
                  refine e_getR (pc := 131) g 89 fl_X10_58 sh_72 rfl dX10_pump_131 ?_
                  refine e_aload_n (pc := 134) g 0 dX10_pump_134 rfl ?_
                  refine e_getI (pc := 135) g fl_X10_154 sh_72 rfl dX10_pump_135 ?_
                  refine e_iconst (pc := 138) g 0 dX10_pump_138 kc_0 ?_
                  obtain ⟨o61, h⟩ := h
                  refine e_zast (pc := 139) g sh_89 o61 dX10_pump_139 ?_
                  obtain ⟨M62, qM62⟩ : ∃ y : MM, y = ui M60 89 (M60.1 72 13).toNatClampNeg (vp_nar .boolean 0) := ⟨_, rfl⟩
                  have h := h M62 qM62
                  refine e_to (M' := M62) rfl rfl (by rw [qM62]) ?_
                  refine e_aload_n (pc := 140) g 0 dX10_pump_140 rfl ?_
                  refine e_dup (pc := 141) g dX10_pump_141 rfl ?_
                  refine e_getI (pc := 142) g fl_X10_154 sh_72 rfl dX10_pump_142 ?_
                  refine e_iconst (pc := 145) g 1 dX10_pump_145 kc_1 ?_
                  refine e_iadd (pc := 146) g dX10_pump_146 ?_
                  refine e_putI (pc := 147) g fw_X10_154 sh_72 rfl dX10_pump_147 ?_
                  obtain ⟨M63, qM63⟩ : ∃ y : MM, y = ui M62 72 13 ((M62.1 72 13) + 1) := ⟨_, rfl⟩
                  have h := h M63 qM63
                  refine e_to (M' := M63) rfl rfl (by rw [qM63]) ?_
                  refine e_aload_n (pc := 150) g 0 dX10_pump_150 rfl ?_
                  refine e_getI (pc := 151) g fl_X10_154 sh_72 rfl dX10_pump_151 ?_
                  refine e_iconst (pc := 154) g 1 dX10_pump_154 kc_1 ?_
                  refine e_isub (pc := 155) g dX10_pump_155 ?_
                  exact e_iret (pc := 156) g gr rfl dX10_pump_156 h
                · have h := h.2 c50
                  refine e_bipush (pc := 75) g (-3) dX10_pump_75 kb_m3 ?_
                  exact e_iret (pc := 77) g gr rfl dX10_pump_77 h
              · have h := h.2 c49
                refine e_iconst (pc := 65) g (-1) dX10_pump_65 kc_m1 ?_
                exact e_iret (pc := 66) g gr rfl dX10_pump_66 h
set_option maxHeartbeats 4000000 in
set_option maxRecDepth 100000 in
theorem b_X10_sluice_0 {G : GC} {n : Nat} {r : Option Value} {M' : MM} (g : Good G mX10_sluice n) (gr : GoodR G r M') (hn : 3 ≤ n) (a1 : Int32) (a2 : Int32)   (M : MM) (h : (∃ (r3 : Int32) (M1 : MM), Fn 2 mX10_isDitch [.ref 72, .int a1] M (some (.int r3)) M1 ∧ ((r3 = (0 : Int32) → (r = some (.int (-1)) ∧ M' = M1)) ∧ (¬ (r3 = (0 : Int32)) → (∃ (r7 : Int32) (M5 : MM), Fn 1 mX10_in [.long (a2.toInt64), .long 1, .long 50] M1 (some (.int r7)) M5 ∧ ((¬ r7 = (0 : Int32) → ((¬ (M5.1 72 21) = (4 : Int32) → (vp_in (M5.1 72 21) 4) ∧ (∀ M11 : MM, M11 = ui M5 91 (M5.1 72 21).toNatClampNeg a1 → (vp_in (M11.1 72 21) 4) ∧ (∀ M13 : MM, M13 = ui M11 92 (M11.1 72 21).toNatClampNeg a2 → (∀ M14 : MM, M14 = ui M13 72 21 ((M13.1 72 21) + 1) → (r = some (.int ((M14.1 72 21) - 1)) ∧ M' = M14))))) ∧ ((M5.1 72 21) = (4 : Int32) → (r = some (.int (-3)) ∧ M' = M5)))) ∧ (r7 = (0 : Int32) → (r = some (.int (-1)) ∧ M' = M5)))))))) : Ev G 0 [(0, .ref 72), (1, .int a1), (2, .int a2)] [] M := by
  refine e_aload_n (pc := 0) g 0 dX10_sluice_0 rfl ?_
  refine e_iload_n (pc := 1) g 1 dX10_sluice_1 rfl ?_
  obtain ⟨r3, M1, f2, h⟩ := h
  refine e_callV (As := [.int a1]) (S := []) (pc := 2) g ok_X10_isDitch ml_X10_129 sh_72 ⟨_, rfl, rfl⟩ f2 (by omega) rfl (Nat.le_of_ble_eq_true rfl) dX10_sluice_2 ?_
  refine e_to (S' := [.int r3]) rfl rfl rfl ?_
  refine e_if_eq (pc := 5) g 20 dX10_sluice_5 (by decide) (fun c4 => ?_) (fun c4 => ?_)
  · have h := h.1 c4
    refine e_iconst (pc := 20) g (-1) dX10_sluice_20 kc_m1 ?_
    exact e_iret (pc := 21) g gr rfl dX10_sluice_21 h
  · have h := h.2 c4
    refine e_iload_n (pc := 8) g 2 dX10_sluice_8 rfl ?_
    refine e_i2l (pc := 9) g dX10_sluice_9 ?_
    refine e_lconst (pc := 10) g 1 dX10_sluice_10 kl_1 ?_
    refine e_ldc2 (pc := 11) g 50 kl_X10_121 dX10_sluice_11 ?_
    obtain ⟨r7, M5, f6, h⟩ := h
    refine e_callS (As := [.long (a2.toInt64), .long 1, .long 50]) (S := []) (pc := 14) g ok_X10_in ml_X10_117 f6 (by omega) rfl (Nat.le_of_ble_eq_true rfl) dX10_sluice_14 ?_
    refine e_to (S' := [.int r7]) rfl rfl rfl ?_
    refine e_if_ne (pc := 17) g 22 dX10_sluice_17 (by decide) (fun c8 => ?_) (fun c8 => ?_)
    · have h := h.1 c8
      refine e_aload_n (pc := 22) g 0 dX10_sluice_22 rfl ?_
      refine e_getI (pc := 23) g fl_X10_157 sh_72 rfl dX10_sluice_23 ?_
      refine e_iconst (pc := 26) g 4 dX10_sluice_26 kc_4 ?_
      refine e_icmp_ne (pc := 27) g 33 dX10_sluice_27 (by decide) (fun c9 => ?_) (fun c9 => ?_)
      · have h := h.1 c9
        refine e_aload_n (pc := 33) g 0 dX10_sluice_33 rfl ?_
        refine e_getR (pc := 34) g 91 fl_X10_65 sh_72 rfl dX10_sluice_34 ?_
        refine e_aload_n (pc := 37) g 0 dX10_sluice_37 rfl ?_
        refine e_getI (pc := 38) g fl_X10_157 sh_72 rfl dX10_sluice_38 ?_
        refine e_iload_n (pc := 41) g 1 dX10_sluice_41 rfl ?_
        obtain ⟨o10, h⟩ := h
        refine e_iast (pc := 42) g sh_91 o10 dX10_sluice_42 ?_
        obtain ⟨M11, qM11⟩ : ∃ y : MM, y = ui M5 91 (M5.1 72 21).toNatClampNeg a1 := ⟨_, rfl⟩
        have h := h M11 qM11
        refine e_to (M' := M11) rfl rfl (by rw [qM11]) ?_
        refine e_aload_n (pc := 43) g 0 dX10_sluice_43 rfl ?_
        refine e_getR (pc := 44) g 92 fl_X10_68 sh_72 rfl dX10_sluice_44 ?_
        refine e_aload_n (pc := 47) g 0 dX10_sluice_47 rfl ?_
        refine e_getI (pc := 48) g fl_X10_157 sh_72 rfl dX10_sluice_48 ?_
        refine e_iload_n (pc := 51) g 2 dX10_sluice_51 rfl ?_
        obtain ⟨o12, h⟩ := h
        refine e_iast (pc := 52) g sh_92 o12 dX10_sluice_52 ?_
        obtain ⟨M13, qM13⟩ : ∃ y : MM, y = ui M11 92 (M11.1 72 21).toNatClampNeg a2 := ⟨_, rfl⟩
        have h := h M13 qM13
        refine e_to (M' := M13) rfl rfl (by rw [qM13]) ?_
        refine e_aload_n (pc := 53) g 0 dX10_sluice_53 rfl ?_
        refine e_dup (pc := 54) g dX10_sluice_54 rfl ?_
        refine e_getI (pc := 55) g fl_X10_157 sh_72 rfl dX10_sluice_55 ?_
        refine e_iconst (pc := 58) g 1 dX10_sluice_58 kc_1 ?_
        refine e_iadd (pc := 59) g dX10_sluice_59 ?_
        refine e_putI (pc := 60) g fw_X10_157 sh_72 rfl dX10_sluice_60 ?_
        obtain ⟨M14, qM14⟩ : ∃ y : MM, y = ui M13 72 21 ((M13.1 72 21) + 1) := ⟨_, rfl⟩
        have h := h M14 qM14
        refine e_to (M' := M14) rfl rfl (by rw [qM14]) ?_
        refine e_aload_n (pc := 63) g 0 dX10_sluice_63 rfl ?_
        refine e_getI (pc := 64) g fl_X10_157 sh_72 rfl dX10_sluice_64 ?_
        refine e_iconst (pc := 67) g 1 dX10_sluice_67 kc_1 ?_
        refine e_isub (pc := 68) g dX10_sluice_68 ?_
        exact e_iret (pc := 69) g gr rfl dX10_sluice_69 h
      · have h := h.2 c9
        refine e_bipush (pc := 30) g (-3) dX10_sluice_30 kb_m3 ?_
        exact e_iret (pc := 32) g gr rfl dX10_sluice_32 h
    · have h := h.2 c8
      refine e_iconst (pc := 20) g (-1) dX10_sluice_20 kc_m1 ?_
      exact e_iret (pc := 21) g gr rfl dX10_sluice_21 h
set_option maxHeartbeats 4000000 in
set_option maxRecDepth 100000 in
theorem b_X10_isPaused_0 {G : GC} {n : Nat} {r : Option Value} {M' : MM} (g : Good G mX10_isPaused n) (gr : GoodR G r M') (hn : 1 ≤ n) (a1 : Int32) (a2 : Int32)   (M : MM) (h : (vp_in a1 4) ∧ (¬ 24 = (0 : Int32)) ∧ ((if (((M.1 88 a1.toNatClampNeg) >>> ((a2 - a2 / 24 * 24) &&& 31)) &&& 1) = (1 : Int32) then 1 else 0) = (0 : Int32) ∨ (if (((M.1 88 a1.toNatClampNeg) >>> ((a2 - a2 / 24 * 24) &&& 31)) &&& 1) = (1 : Int32) then 1 else 0) = (1 : Int32)) ∧ (r = some (.int (if (((M.1 88 a1.toNatClampNeg) >>> ((a2 - a2 / 24 * 24) &&& 31)) &&& 1) = (1 : Int32) then 1 else 0)) ∧ M' = M)) : Ev G 0 [(0, .ref 72), (1, .int a1), (2, .int a2)] [] M := by
  refine e_aload_n (pc := 0) g 0 dX10_isPaused_0 rfl ?_
  refine e_getR (pc := 1) g 88 fl_X10_55 sh_72 rfl dX10_isPaused_1 ?_
  refine e_iload_n (pc := 4) g 1 dX10_isPaused_4 rfl ?_
  obtain ⟨o1, h⟩ := h
  refine e_iald (pc := 5) g sh_88 o1 dX10_isPaused_5 ?_
  refine e_iload_n (pc := 6) g 2 dX10_isPaused_6 rfl ?_
  refine e_bipush (pc := 7) g 24 dX10_isPaused_7 kb_24 ?_
  obtain ⟨o2, h⟩ := h
  refine e_irem (pc := 9) g dX10_isPaused_9 o2 ?_
  refine e_ishr (pc := 10) g dX10_isPaused_10 ?_
  refine e_iconst (pc := 11) g 1 dX10_isPaused_11 kc_1 ?_
  refine e_iand (pc := 12) g dX10_isPaused_12 ?_
  refine e_iconst (pc := 13) g 1 dX10_isPaused_13 kc_1 ?_
  have hj : Ev G 22 [(0, .ref 72), (1, .int a1), (2, .int a2)] [.int (if (((M.1 88 a1.toNatClampNeg) >>> ((a2 - a2 / 24 * 24) &&& 31)) &&& 1) = (1 : Int32) then 1 else 0)] M := by
    obtain ⟨o4, h⟩ := h
    exact e_zret (pc := 22) g gr rfl o4 dX10_isPaused_22 h
  refine e_icmp_ne (pc := 14) g 21 dX10_isPaused_14 (by decide) (fun c3 => ?_) (fun c3 => ?_)
  · rw [if_neg c3] at hj
    refine e_iconst (pc := 21) g 0 dX10_isPaused_21 kc_0 ?_
    exact hj
  · rw [if_pos c3] at hj
    refine e_iconst (pc := 17) g 1 dX10_isPaused_17 kc_1 ?_
    refine e_goto (pc := 18) g 22 dX10_isPaused_18 (by decide) ?_
    exact hj
set_option maxHeartbeats 4000000 in
set_option maxRecDepth 100000 in
theorem b_X10_turns_0 {G : GC} {n : Nat} {r : Option Value} {M' : MM} (g : Good G mX10_turns n) (gr : GoodR G r M') (hn : 1 ≤ n) (a1 : Int32) (a2 : Int32)   (M : MM) (h : ((a2 = (0 : Int32) → (vp_in a1 4) ∧ (∀ M3 : MM, M3 = ui M 89 a1.toNatClampNeg (vp_nar .boolean a2) → (r = none ∧ M' = M3))) ∧ (¬ (a2 = (0 : Int32)) → (vp_in a1 4) ∧ ((¬ (M.1 89 a1.toNatClampNeg) = (0 : Int32) → (∀ M6 : MM, M6 = ui M 89 a1.toNatClampNeg (vp_nar .boolean a2) → (r = none ∧ M' = M6))) ∧ ((M.1 89 a1.toNatClampNeg) = (0 : Int32) → (∀ M7 : MM, M7 = ui M 90 a1.toNatClampNeg (M.1 72 27) → (∀ M8 : MM, M8 = ui M7 89 a1.toNatClampNeg (vp_nar .boolean a2) → (r = none ∧ M' = M8)))))))) : Ev G 0 [(0, .ref 72), (1, .int a1), (2, .int a2)] [] M := by
  refine e_iload_n (pc := 0) g 2 dX10_turns_0 rfl ?_
  refine e_if_eq (pc := 1) g 23 dX10_turns_1 (by decide) (fun c1 => ?_) (fun c1 => ?_)
  · have h := h.1 c1
    refine e_aload_n (pc := 23) g 0 dX10_turns_23 rfl ?_
    refine e_getR (pc := 24) g 89 fl_X10_58 sh_72 rfl dX10_turns_24 ?_
    refine e_iload_n (pc := 27) g 1 dX10_turns_27 rfl ?_
    refine e_iload_n (pc := 28) g 2 dX10_turns_28 rfl ?_
    obtain ⟨o2, h⟩ := h
    refine e_zast (pc := 29) g sh_89 o2 dX10_turns_29 ?_
    obtain ⟨M3, qM3⟩ : ∃ y : MM, y = ui M 89 a1.toNatClampNeg (vp_nar .boolean a2) := ⟨_, rfl⟩
    have h := h M3 qM3
    refine e_to (M' := M3) rfl rfl (by rw [qM3]) ?_
    exact e_vret (pc := 30) g gr rfl dX10_turns_30 h
  · have h := h.2 c1
    refine e_aload_n (pc := 4) g 0 dX10_turns_4 rfl ?_
    refine e_getR (pc := 5) g 89 fl_X10_58 sh_72 rfl dX10_turns_5 ?_
    refine e_iload_n (pc := 8) g 1 dX10_turns_8 rfl ?_
    obtain ⟨o4, h⟩ := h
    refine e_zald (pc := 9) g sh_89 o4 dX10_turns_9 ?_
    refine e_if_ne (pc := 10) g 23 dX10_turns_10 (by decide) (fun c5 => ?_) (fun c5 => ?_)
    · have h := h.1 c5
      refine e_aload_n (pc := 23) g 0 dX10_turns_23 rfl ?_
      refine e_getR (pc := 24) g 89 fl_X10_58 sh_72 rfl dX10_turns_24 ?_
      refine e_iload_n (pc := 27) g 1 dX10_turns_27 rfl ?_
      refine e_iload_n (pc := 28) g 2 dX10_turns_28 rfl ?_
      refine e_zast (pc := 29) g sh_89 o4 dX10_turns_29 ?_
      obtain ⟨M6, qM6⟩ : ∃ y : MM, y = ui M 89 a1.toNatClampNeg (vp_nar .boolean a2) := ⟨_, rfl⟩
      have h := h M6 qM6
      refine e_to (M' := M6) rfl rfl (by rw [qM6]) ?_
      exact e_vret (pc := 30) g gr rfl dX10_turns_30 h
    · have h := h.2 c5
      refine e_aload_n (pc := 13) g 0 dX10_turns_13 rfl ?_
      refine e_getR (pc := 14) g 90 fl_X10_62 sh_72 rfl dX10_turns_14 ?_
      refine e_iload_n (pc := 17) g 1 dX10_turns_17 rfl ?_
      refine e_aload_n (pc := 18) g 0 dX10_turns_18 rfl ?_
      refine e_getI (pc := 19) g fl_X10_160 sh_72 rfl dX10_turns_19 ?_
      refine e_iast (pc := 22) g sh_90 o4 dX10_turns_22 ?_
      obtain ⟨M7, qM7⟩ : ∃ y : MM, y = ui M 90 a1.toNatClampNeg (M.1 72 27) := ⟨_, rfl⟩
      have h := h M7 qM7
      refine e_to (M' := M7) rfl rfl (by rw [qM7]) ?_
      refine e_aload_n (pc := 23) g 0 dX10_turns_23 rfl ?_
      refine e_getR (pc := 24) g 89 fl_X10_58 sh_72 rfl dX10_turns_24 ?_
      refine e_iload_n (pc := 27) g 1 dX10_turns_27 rfl ?_
      refine e_iload_n (pc := 28) g 2 dX10_turns_28 rfl ?_
      refine e_zast (pc := 29) g sh_89 o4 dX10_turns_29 ?_
      obtain ⟨M8, qM8⟩ : ∃ y : MM, y = ui M7 89 a1.toNatClampNeg (vp_nar .boolean a2) := ⟨_, rfl⟩
      have h := h M8 qM8
      refine e_to (M' := M8) rfl rfl (by rw [qM8]) ?_
      exact e_vret (pc := 30) g gr rfl dX10_turns_30 h
/-- at the cut 78 of X10_turn -/
def At_X10_turn_78 (G : GC)  (v1 : Int32) (v2 : Int32)  (M : MM) : Prop := Ev G 78 [(0, .ref 72), (1, .int v1), (2, .int v2)] [] M
set_option maxHeartbeats 4000000 in
set_option maxRecDepth 100000 in
theorem b_X10_turn_0 {G : GC} {n : Nat} {r : Option Value} {M' : MM} (g : Good G mX10_turn n) (gr : GoodR G r M') (hn : 2 ≤ n) (a1 : Int32) (a2 : Int32)   (M : MM) (h : (∃ (r3 : Int32) (M1 : MM), Fn 1 mX10_in [.long (a1.toInt64), .long 0, .long (((M.1 72 13) - 1).toInt64)] M (some (.int r3)) M1 ∧ ((¬ r3 = (0 : Int32) → ((a2 = (0 : Int32) → (vp_in a1 4) ∧ (((M1.1 89 a1.toNatClampNeg) = (0 : Int32) → At_X10_turn_78 G a1 a2 M1) ∧ (¬ ((M1.1 89 a1.toNatClampNeg) = (0 : Int32)) → ((((M1.1 87 a1.toNatClampNeg) : Int32) ≤ ((M1.1 72 27) - (M1.1 90 a1.toNatClampNeg)) → At_X10_turn_78 G a1 a2 M1) ∧ (¬ (((M1.1 87 a1.toNatClampNeg) : Int32) ≤ ((M1.1 72 27) - (M1.1 90 a1.toNatClampNeg))) → (r = some (.int (-2)) ∧ M' = M1)))))) ∧ (¬ (a2 = (0 : Int32)) → (vp_in a1 4) ∧ ((¬ (M1.1 89 a1.toNatClampNeg) = (0 : Int32) → At_X10_turn_78 G a1 a2 M1) ∧ ((M1.1 89 a1.toNatClampNeg) = (0 : Int32) → (∃ (r13 : Int32) (M11 : MM), Fn 1 mX10_isPaused [.ref 72, .int a1, .int (M1.1 72 27)] M1 (some (.int r13)) M11 ∧ ((r13 = (0 : Int32) → At_X10_turn_78 G a1 a2 M11) ∧ (¬ (r13 = (0 : Int32)) → (r = some (.int (-2)) ∧ M' = M11))))))))) ∧ (r3 = (0 : Int32) → (r = some (.int (-1)) ∧ M' = M1))))) : Ev G 0 [(0, .ref 72), (1, .int a1), (2, .int a2)] [] M := by
  refine e_iload_n (pc := 0) g 1 dX10_turn_0 rfl ?_
  refine e_i2l (pc := 1) g dX10_turn_1 ?_
  refine e_lconst (pc := 2) g 0 dX10_turn_2 kl_0 ?_
  refine e_aload_n (pc := 3) g 0 dX10_turn_3 rfl ?_
  refine e_getI (pc := 4) g fl_X10_154 sh_72 rfl dX10_turn_4 ?_
  refine e_iconst (pc := 7) g 1 dX10_turn_7 kc_1 ?_
  refine e_isub (pc := 8) g dX10_turn_8 ?_
  refine e_i2l (pc := 9) g dX10_turn_9 ?_
  obtain ⟨r3, M1, f2, h⟩ := h
  refine e_callS (As := [.long (a1.toInt64), .long 0, .long (((M.1 72 13) - 1).toInt64)]) (S := []) (pc := 10) g ok_X10_in ml_X10_117 f2 (by omega) rfl (Nat.le_of_ble_eq_true rfl) dX10_turn_10 ?_
  refine e_to (S' := [.int r3]) rfl rfl rfl ?_
  refine e_if_ne (pc := 13) g 18 dX10_turn_13 (by decide) (fun c4 => ?_) (fun c4 => ?_)
  · have h := h.1 c4
    refine e_iload_n (pc := 18) g 2 dX10_turn_18 rfl ?_
    refine e_if_eq (pc := 19) g 46 dX10_turn_19 (by decide) (fun c5 => ?_) (fun c5 => ?_)
    · have h := h.1 c5
      refine e_aload_n (pc := 46) g 0 dX10_turn_46 rfl ?_
      refine e_getR (pc := 47) g 89 fl_X10_58 sh_72 rfl dX10_turn_47 ?_
      refine e_iload_n (pc := 50) g 1 dX10_turn_50 rfl ?_
      obtain ⟨o6, h⟩ := h
      refine e_zald (pc := 51) g sh_89 o6 dX10_turn_51 ?_
      refine e_if_eq (pc := 52) g 78 dX10_turn_52 (by decide) (fun c7 => ?_) (fun c7 => ?_)
      · have h := h.1 c7
        exact h
      · have h := h.2 c7
        refine e_aload_n (pc := 55) g 0 dX10_turn_55 rfl ?_
        refine e_getI (pc := 56) g fl_X10_160 sh_72 rfl dX10_turn_56 ?_
        refine e_aload_n (pc := 59) g 0 dX10_turn_59 rfl ?_
        refine e_getR (pc := 60) g 90 fl_X10_62 sh_72 rfl dX10_turn_60 ?_
        refine e_iload_n (pc := 63) g 1 dX10_turn_63 rfl ?_
        refine e_iald (pc := 64) g sh_90 o6 dX10_turn_64 ?_
        refine e_isub (pc := 65) g dX10_turn_65 ?_
        refine e_aload_n (pc := 66) g 0 dX10_turn_66 rfl ?_
        refine e_getR (pc := 67) g 87 fl_X10_52 sh_72 rfl dX10_turn_67 ?_
        refine e_iload_n (pc := 70) g 1 dX10_turn_70 rfl ?_
        refine e_iald (pc := 71) g sh_87 o6 dX10_turn_71 ?_
        refine e_icmp_ge (pc := 72) g 78 dX10_turn_72 (by decide) (fun c8 => ?_) (fun c8 => ?_)
        · have h := h.1 c8
          exact h
        · have h := h.2 c8
          refine e_bipush (pc := 75) g (-2) dX10_turn_75 kb_m2 ?_
          exact e_iret (pc := 77) g gr rfl dX10_turn_77 h
    · have h := h.2 c5
      refine e_aload_n (pc := 22) g 0 dX10_turn_22 rfl ?_
      refine e_getR (pc := 23) g 89 fl_X10_58 sh_72 rfl dX10_turn_23 ?_
      refine e_iload_n (pc := 26) g 1 dX10_turn_26 rfl ?_
      obtain ⟨o9, h⟩ := h
      refine e_zald (pc := 27) g sh_89 o9 dX10_turn_27 ?_
      refine e_if_ne (pc := 28) g 78 dX10_turn_28 (by decide) (fun c10 => ?_) (fun c10 => ?_)
      · have h := h.1 c10
        exact h
      · have h := h.2 c10
        refine e_aload_n (pc := 31) g 0 dX10_turn_31 rfl ?_
        refine e_iload_n (pc := 32) g 1 dX10_turn_32 rfl ?_
        refine e_aload_n (pc := 33) g 0 dX10_turn_33 rfl ?_
        refine e_getI (pc := 34) g fl_X10_160 sh_72 rfl dX10_turn_34 ?_
        obtain ⟨r13, M11, f12, h⟩ := h
        refine e_callV (As := [.int a1, .int (M1.1 72 27)]) (S := []) (pc := 37) g ok_X10_isPaused ml_X10_163 sh_72 ⟨_, rfl, rfl⟩ f12 (by omega) rfl (Nat.le_of_ble_eq_true rfl) dX10_turn_37 ?_
        refine e_to (S' := [.int r13]) rfl rfl rfl ?_
        refine e_if_eq (pc := 40) g 78 dX10_turn_40 (by decide) (fun c14 => ?_) (fun c14 => ?_)
        · have h := h.1 c14
          exact h
        · have h := h.2 c14
          refine e_goto (pc := 43) g 75 dX10_turn_43 (by decide) ?_
          refine e_bipush (pc := 75) g (-2) dX10_turn_75 kb_m2 ?_
          exact e_iret (pc := 77) g gr rfl dX10_turn_77 h
  · have h := h.2 c4
    refine e_iconst (pc := 16) g (-1) dX10_turn_16 kc_m1 ?_
    exact e_iret (pc := 17) g gr rfl dX10_turn_17 h
set_option maxHeartbeats 4000000 in
set_option maxRecDepth 100000 in
theorem b_X10_turn_78 {G : GC} {n : Nat} {r : Option Value} {M' : MM} (g : Good G mX10_turn n) (gr : GoodR G r M') (hn : 2 ≤ n)  (v1 : Int32) (v2 : Int32)  (M : MM) (h : (vp_in v1 4) ∧ (∀ x3 : Int32, x3 = (if (M.1 89 v1.toNatClampNeg) = (0 : Int32) then 0 else 1) → (∃ M4 : MM, Fn 1 mX10_turns [.ref 72, .int v1, .int v2] M none M4 ∧ (r = some (.int x3) ∧ M' = M4)))) : At_X10_turn_78 G v1 v2 M := by
  unfold At_X10_turn_78
  refine e_aload_n (pc := 78) g 0 dX10_turn_78 rfl ?_
  refine e_getR (pc := 79) g 89 fl_X10_58 sh_72 rfl dX10_turn_79 ?_
  refine e_iload_n (pc := 82) g 1 dX10_turn_82 rfl ?_
  obtain ⟨o1, h⟩ := h
  refine e_zald (pc := 83) g sh_89 o1 dX10_turn_83 ?_
  have hj : Ev G 92 [(0, .ref 72), (1, .int v1), (2, .int v2)] [.int (if (M.1 89 v1.toNatClampNeg) = (0 : Int32) then 0 else 1)] M := by
    obtain ⟨x3, qx3⟩ : ∃ y : Int32, y = (if (M.1 89 v1.toNatClampNeg) = (0 : Int32) then 0 else 1) := ⟨_, rfl⟩
    have h := h x3 qx3
    refine e_to (S' := [.int x3]) rfl (by rw [qx3]) rfl ?_
    refine e_istore_n (pc := 92) g [(0, .ref 72), (1, .int v1), (2, .int v2), (3, .int x3)] dX10_turn_92 (by decide) rfl ?_
    refine e_aload_n (pc := 93) g 0 dX10_turn_93 rfl ?_
    refine e_iload_n (pc := 94) g 1 dX10_turn_94 rfl ?_
    refine e_iload_n (pc := 95) g 2 dX10_turn_95 rfl ?_
    obtain ⟨M4, f5, h⟩ := h
    refine e_callV (As := [.int v1, .int v2]) (S := []) (pc := 96) g ok_X10_turns ml_X10_167 sh_72 ⟨_, rfl, rfl⟩ f5 (by omega) rfl (Nat.le_of_ble_eq_true rfl) dX10_turn_96 ?_
    refine e_to (S' := []) rfl rfl rfl ?_
    refine e_iload_n (pc := 99) g 3 dX10_turn_99 rfl ?_
    exact e_iret (pc := 100) g gr rfl dX10_turn_100 h
  refine e_if_eq (pc := 84) g 91 dX10_turn_84 (by decide) (fun c2 => ?_) (fun c2 => ?_)
  · rw [if_pos c2] at hj
    refine e_iconst (pc := 91) g 0 dX10_turn_91 kc_0 ?_
    exact hj
  · rw [if_neg c2] at hj
    refine e_iconst (pc := 87) g 1 dX10_turn_87 kc_1 ?_
    refine e_goto (pc := 88) g 92 dX10_turn_88 (by decide) ?_
    exact hj
set_option maxHeartbeats 4000000 in
set_option maxRecDepth 100000 in
theorem b_X10_open_0 {G : GC} {n : Nat} {r : Option Value} {M' : MM} (g : Good G mX10_open n) (gr : GoodR G r M') (hn : 2 ≤ n) (a1 : Int32) (a2 : Int32)   (M : MM) (h : (∃ (r3 : Int32) (M1 : MM), Fn 1 mX10_in [.long (a1.toInt64), .long 0, .long (((M.1 72 21) - 1).toInt64)] M (some (.int r3)) M1 ∧ ((¬ r3 = (0 : Int32) → (vp_in a1 4) ∧ (∀ x7 : Int32, x7 = (if (M1.1 93 a1.toNatClampNeg) = (0 : Int32) then 0 else 1) → (∀ M8 : MM, M8 = ui M1 93 a1.toNatClampNeg (vp_nar .boolean a2) → (r = some (.int x7) ∧ M' = M8)))) ∧ (r3 = (0 : Int32) → (r = some (.int (-1)) ∧ M' = M1))))) : Ev G 0 [(0, .ref 72), (1, .int a1), (2, .int a2)] [] M := by
  refine e_iload_n (pc := 0) g 1 dX10_open_0 rfl ?_
  refine e_i2l (pc := 1) g dX10_open_1 ?_
  refine e_lconst (pc := 2) g 0 dX10_open_2 kl_0 ?_
  refine e_aload_n (pc := 3) g 0 dX10_open_3 rfl ?_
  refine e_getI (pc := 4) g fl_X10_157 sh_72 rfl dX10_open_4 ?_
  refine e_iconst (pc := 7) g 1 dX10_open_7 kc_1 ?_
  refine e_isub (pc := 8) g dX10_open_8 ?_
  refine e_i2l (pc := 9) g dX10_open_9 ?_
  obtain ⟨r3, M1, f2, h⟩ := h
  refine e_callS (As := [.long (a1.toInt64), .long 0, .long (((M.1 72 21) - 1).toInt64)]) (S := []) (pc := 10) g ok_X10_in ml_X10_117 f2 (by omega) rfl (Nat.le_of_ble_eq_true rfl) dX10_open_10 ?_
  refine e_to (S' := [.int r3]) rfl rfl rfl ?_
  refine e_if_ne (pc := 13) g 18 dX10_open_13 (by decide) (fun c4 => ?_) (fun c4 => ?_)
  · have h := h.1 c4
    refine e_aload_n (pc := 18) g 0 dX10_open_18 rfl ?_
    refine e_getR (pc := 19) g 93 fl_X10_71 sh_72 rfl dX10_open_19 ?_
    refine e_iload_n (pc := 22) g 1 dX10_open_22 rfl ?_
    obtain ⟨o5, h⟩ := h
    refine e_zald (pc := 23) g sh_93 o5 dX10_open_23 ?_
    have hj : Ev G 32 [(0, .ref 72), (1, .int a1), (2, .int a2)] [.int (if (M1.1 93 a1.toNatClampNeg) = (0 : Int32) then 0 else 1)] M1 := by
      obtain ⟨x7, qx7⟩ : ∃ y : Int32, y = (if (M1.1 93 a1.toNatClampNeg) = (0 : Int32) then 0 else 1) := ⟨_, rfl⟩
      have h := h x7 qx7
      refine e_to (S' := [.int x7]) rfl (by rw [qx7]) rfl ?_
      refine e_istore_n (pc := 32) g [(0, .ref 72), (1, .int a1), (2, .int a2), (3, .int x7)] dX10_open_32 (by decide) rfl ?_
      refine e_aload_n (pc := 33) g 0 dX10_open_33 rfl ?_
      refine e_getR (pc := 34) g 93 fl_X10_71 sh_72 rfl dX10_open_34 ?_
      refine e_iload_n (pc := 37) g 1 dX10_open_37 rfl ?_
      refine e_iload_n (pc := 38) g 2 dX10_open_38 rfl ?_
      refine e_zast (pc := 39) g sh_93 o5 dX10_open_39 ?_
      obtain ⟨M8, qM8⟩ : ∃ y : MM, y = ui M1 93 a1.toNatClampNeg (vp_nar .boolean a2) := ⟨_, rfl⟩
      have h := h M8 qM8
      refine e_to (M' := M8) rfl rfl (by rw [qM8]) ?_
      refine e_iload_n (pc := 40) g 3 dX10_open_40 rfl ?_
      exact e_iret (pc := 41) g gr rfl dX10_open_41 h
    refine e_if_eq (pc := 24) g 31 dX10_open_24 (by decide) (fun c6 => ?_) (fun c6 => ?_)
    · rw [if_pos c6] at hj
      refine e_iconst (pc := 31) g 0 dX10_open_31 kc_0 ?_
      exact hj
    · rw [if_neg c6] at hj
      refine e_iconst (pc := 27) g 1 dX10_open_27 kc_1 ?_
      refine e_goto (pc := 28) g 32 dX10_open_28 (by decide) ?_
      exact hj
  · have h := h.2 c4
    refine e_iconst (pc := 16) g (-1) dX10_open_16 kc_m1 ?_
    exact e_iret (pc := 17) g gr rfl dX10_open_17 h
set_option maxHeartbeats 4000000 in
set_option maxRecDepth 100000 in
theorem b_X10_tide_0 {G : GC} {n : Nat} {r : Option Value} {M' : MM} (g : Good G mX10_tide n) (gr : GoodR G r M') (hn : 2 ≤ n) (a1 : Int32) (a2 : Int32)   (M : MM) (h : (∃ (r3 : Int32) (M1 : MM), Fn 1 mX10_in [.long (a1.toInt64), .long 0, .long 23] M (some (.int r3)) M1 ∧ ((r3 = (0 : Int32) → (r = some (.int (-1000000)) ∧ M' = M1)) ∧ (¬ (r3 = (0 : Int32)) → (∃ (r7 : Int32) (M5 : MM), Fn 1 mX10_in [.long (a2.toInt64), .long (-500), .long 500] M1 (some (.int r7)) M5 ∧ ((¬ r7 = (0 : Int32) → (vp_in a1 24) ∧ (∀ x10 : Int32, x10 = (M5.1 94 a1.toNatClampNeg) → (∀ M11 : MM, M11 = ui M5 94 a1.toNatClampNeg a2 → (r = some (.int x10) ∧ M' = M11)))) ∧ (r7 = (0 : Int32) → (r = some (.int (-1000000)) ∧ M' = M5)))))))) : Ev G 0 [(0, .ref 72), (1, .int a1), (2, .int a2)] [] M := by
  refine e_iload_n (pc := 0) g 1 dX10_tide_0 rfl ?_
  refine e_i2l (pc := 1) g dX10_tide_1 ?_
  refine e_lconst (pc := 2) g 0 dX10_tide_2 kl_0 ?_
  refine e_ldc2 (pc := 3) g 23 kl_X10_171 dX10_tide_3 ?_
  obtain ⟨r3, M1, f2, h⟩ := h
  refine e_callS (As := [.long (a1.toInt64), .long 0, .long 23]) (S := []) (pc := 6) g ok_X10_in ml_X10_117 f2 (by omega) rfl (Nat.le_of_ble_eq_true rfl) dX10_tide_6 ?_
  refine e_to (S' := [.int r3]) rfl rfl rfl ?_
  refine e_if_eq (pc := 9) g 26 dX10_tide_9 (by decide) (fun c4 => ?_) (fun c4 => ?_)
  · have h := h.1 c4
    refine e_ldc (pc := 26) g (-1000000) kc_X10_143 dX10_tide_26 ?_
    exact e_iret (pc := 28) g gr rfl dX10_tide_28 h
  · have h := h.2 c4
    refine e_iload_n (pc := 12) g 2 dX10_tide_12 rfl ?_
    refine e_i2l (pc := 13) g dX10_tide_13 ?_
    refine e_ldc2 (pc := 14) g (-500) kl_X10_123 dX10_tide_14 ?_
    refine e_ldc2 (pc := 17) g 500 kl_X10_125 dX10_tide_17 ?_
    obtain ⟨r7, M5, f6, h⟩ := h
    refine e_callS (As := [.long (a2.toInt64), .long (-500), .long 500]) (S := []) (pc := 20) g ok_X10_in ml_X10_117 f6 (by omega) rfl (Nat.le_of_ble_eq_true rfl) dX10_tide_20 ?_
    refine e_to (S' := [.int r7]) rfl rfl rfl ?_
    refine e_if_ne (pc := 23) g 29 dX10_tide_23 (by decide) (fun c8 => ?_) (fun c8 => ?_)
    · have h := h.1 c8
      refine e_aload_n (pc := 29) g 0 dX10_tide_29 rfl ?_
      refine e_getR (pc := 30) g 94 fl_X10_74 sh_72 rfl dX10_tide_30 ?_
      refine e_iload_n (pc := 33) g 1 dX10_tide_33 rfl ?_
      obtain ⟨o9, h⟩ := h
      refine e_iald (pc := 34) g sh_94 o9 dX10_tide_34 ?_
      obtain ⟨x10, qx10⟩ : ∃ y : Int32, y = (M5.1 94 a1.toNatClampNeg) := ⟨_, rfl⟩
      have h := h x10 qx10
      refine e_to (S' := [.int x10]) rfl (by rw [qx10]) rfl ?_
      refine e_istore_n (pc := 35) g [(0, .ref 72), (1, .int a1), (2, .int a2), (3, .int x10)] dX10_tide_35 (by decide) rfl ?_
      refine e_aload_n (pc := 36) g 0 dX10_tide_36 rfl ?_
      refine e_getR (pc := 37) g 94 fl_X10_74 sh_72 rfl dX10_tide_37 ?_
      refine e_iload_n (pc := 40) g 1 dX10_tide_40 rfl ?_
      refine e_iload_n (pc := 41) g 2 dX10_tide_41 rfl ?_
      refine e_iast (pc := 42) g sh_94 o9 dX10_tide_42 ?_
      obtain ⟨M11, qM11⟩ : ∃ y : MM, y = ui M5 94 a1.toNatClampNeg a2 := ⟨_, rfl⟩
      have h := h M11 qM11
      refine e_to (M' := M11) rfl rfl (by rw [qM11]) ?_
      refine e_iload_n (pc := 43) g 3 dX10_tide_43 rfl ?_
      exact e_iret (pc := 44) g gr rfl dX10_tide_44 h
    · have h := h.2 c8
      refine e_ldc (pc := 26) g (-1000000) kc_X10_143 dX10_tide_26 ?_
      exact e_iret (pc := 28) g gr rfl dX10_tide_28 h
set_option maxHeartbeats 4000000 in
set_option maxRecDepth 100000 in
theorem b_X10_price_0 {G : GC} {n : Nat} {r : Option Value} {M' : MM} (g : Good G mX10_price n) (gr : GoodR G r M') (hn : 2 ≤ n) (a1 : Int32) (a2 : Int32)   (M : MM) (h : (∃ (r3 : Int32) (M1 : MM), Fn 1 mX10_in [.long (a1.toInt64), .long 0, .long 23] M (some (.int r3)) M1 ∧ ((r3 = (0 : Int32) → (r = some (.int (-1)) ∧ M' = M1)) ∧ (¬ (r3 = (0 : Int32)) → (∃ (r7 : Int32) (M5 : MM), Fn 1 mX10_in [.long (a2.toInt64), .long 0, .long 100] M1 (some (.int r7)) M5 ∧ ((¬ r7 = (0 : Int32) → (vp_in a1 24) ∧ (∀ x10 : Int32, x10 = (M5.1 95 a1.toNatClampNeg) → (∀ M11 : MM, M11 = ui M5 95 a1.toNatClampNeg a2 → (r = some (.int x10) ∧ M' = M11)))) ∧ (r7 = (0 : Int32) → (r = some (.int (-1)) ∧ M' = M5)))))))) : Ev G 0 [(0, .ref 72), (1, .int a1), (2, .int a2)] [] M := by
  refine e_iload_n (pc := 0) g 1 dX10_price_0 rfl ?_
  refine e_i2l (pc := 1) g dX10_price_1 ?_
  refine e_lconst (pc := 2) g 0 dX10_price_2 kl_0 ?_
  refine e_ldc2 (pc := 3) g 23 kl_X10_171 dX10_price_3 ?_
  obtain ⟨r3, M1, f2, h⟩ := h
  refine e_callS (As := [.long (a1.toInt64), .long 0, .long 23]) (S := []) (pc := 6) g ok_X10_in ml_X10_117 f2 (by omega) rfl (Nat.le_of_ble_eq_true rfl) dX10_price_6 ?_
  refine e_to (S' := [.int r3]) rfl rfl rfl ?_
  refine e_if_eq (pc := 9) g 24 dX10_price_9 (by decide) (fun c4 => ?_) (fun c4 => ?_)
  · have h := h.1 c4
    refine e_iconst (pc := 24) g (-1) dX10_price_24 kc_m1 ?_
    exact e_iret (pc := 25) g gr rfl dX10_price_25 h
  · have h := h.2 c4
    refine e_iload_n (pc := 12) g 2 dX10_price_12 rfl ?_
    refine e_i2l (pc := 13) g dX10_price_13 ?_
    refine e_lconst (pc := 14) g 0 dX10_price_14 kl_0 ?_
    refine e_ldc2 (pc := 15) g 100 kl_X10_173 dX10_price_15 ?_
    obtain ⟨r7, M5, f6, h⟩ := h
    refine e_callS (As := [.long (a2.toInt64), .long 0, .long 100]) (S := []) (pc := 18) g ok_X10_in ml_X10_117 f6 (by omega) rfl (Nat.le_of_ble_eq_true rfl) dX10_price_18 ?_
    refine e_to (S' := [.int r7]) rfl rfl rfl ?_
    refine e_if_ne (pc := 21) g 26 dX10_price_21 (by decide) (fun c8 => ?_) (fun c8 => ?_)
    · have h := h.1 c8
      refine e_aload_n (pc := 26) g 0 dX10_price_26 rfl ?_
      refine e_getR (pc := 27) g 95 fl_X10_77 sh_72 rfl dX10_price_27 ?_
      refine e_iload_n (pc := 30) g 1 dX10_price_30 rfl ?_
      obtain ⟨o9, h⟩ := h
      refine e_iald (pc := 31) g sh_95 o9 dX10_price_31 ?_
      obtain ⟨x10, qx10⟩ : ∃ y : Int32, y = (M5.1 95 a1.toNatClampNeg) := ⟨_, rfl⟩
      have h := h x10 qx10
      refine e_to (S' := [.int x10]) rfl (by rw [qx10]) rfl ?_
      refine e_istore_n (pc := 32) g [(0, .ref 72), (1, .int a1), (2, .int a2), (3, .int x10)] dX10_price_32 (by decide) rfl ?_
      refine e_aload_n (pc := 33) g 0 dX10_price_33 rfl ?_
      refine e_getR (pc := 34) g 95 fl_X10_77 sh_72 rfl dX10_price_34 ?_
      refine e_iload_n (pc := 37) g 1 dX10_price_37 rfl ?_
      refine e_iload_n (pc := 38) g 2 dX10_price_38 rfl ?_
      refine e_iast (pc := 39) g sh_95 o9 dX10_price_39 ?_
      obtain ⟨M11, qM11⟩ : ∃ y : MM, y = ui M5 95 a1.toNatClampNeg a2 := ⟨_, rfl⟩
      have h := h M11 qM11
      refine e_to (M' := M11) rfl rfl (by rw [qM11]) ?_
      refine e_iload_n (pc := 40) g 3 dX10_price_40 rfl ?_
      exact e_iret (pc := 41) g gr rfl dX10_price_41 h
    · have h := h.2 c8
      refine e_iconst (pc := 24) g (-1) dX10_price_24 kc_m1 ?_
      exact e_iret (pc := 25) g gr rfl dX10_price_25 h
set_option maxHeartbeats 4000000 in
set_option maxRecDepth 100000 in
theorem b_X10_less_0 {G : GC} {n : Nat} {r : Option Value} {M' : MM} (g : Good G mX10_less n) (gr : GoodR G r M') (hn : 1 ≤ n) (a0 : Int32) (a1 : Int32)   (M : MM) (h : (r = some (.int (if (a1 : Int32) ≤ a0 then a1 else a0)) ∧ M' = M)) : Ev G 0 [(0, .int a0), (1, .int a1)] [] M := by
  refine e_iload_n (pc := 0) g 0 dX10_less_0 rfl ?_
  refine e_iload_n (pc := 1) g 1 dX10_less_1 rfl ?_
  have hj : Ev G 10 [(0, .int a0), (1, .int a1)] [.int (if (a1 : Int32) ≤ a0 then a1 else a0)] M := by
    exact e_iret (pc := 10) g gr rfl dX10_less_10 h
  refine e_icmp_ge (pc := 2) g 9 dX10_less_2 (by decide) (fun c1 => ?_) (fun c1 => ?_)
  · rw [if_pos c1] at hj
    refine e_iload_n (pc := 9) g 1 dX10_less_9 rfl ?_
    exact hj
  · rw [if_neg c1] at hj
    refine e_iload_n (pc := 5) g 0 dX10_less_5 rfl ?_
    refine e_goto (pc := 6) g 10 dX10_less_6 (by decide) ?_
    exact hj
/-- at the cut 3 of X10_flows -/
def At_X10_flows_3 (G : GC)  (v1 : Int32) (v2 : Int32) (v3 : Int32) (v4 : Int32)  (M : MM) : Prop := Ev G 3 [(0, .ref 72), (1, .int v1), (2, .int v2), (3, .int v3), (4, .int v4)] [] M
set_option maxHeartbeats 4000000 in
set_option maxRecDepth 100000 in
theorem b_X10_flows_0 {G : GC} {n : Nat} {r : Option Value} {M' : MM} (g : Good G mX10_flows n) (gr : GoodR G r M') (hn : 2 ≤ n) (a1 : Int32) (a2 : Int32) (a3 : Int32)   (M : MM) (h : At_X10_flows_3 G a1 a2 a3 0 M) : Ev G 0 [(0, .ref 72), (1, .int a1), (2, .int a2), (3, .int a3)] [] M := by
  refine e_iconst (pc := 0) g 0 dX10_flows_0 kc_0 ?_
  refine e_istore (pc := 1) g [(0, .ref 72), (1, .int a1), (2, .int a2), (3, .int a3), (4, .int 0)] dX10_flows_1 (by decide) rfl ?_
  exact h
/-- at the cut 59 of X10_flows -/
def At_X10_flows_59 (G : GC)  (v1 : Int32) (v2 : Int32) (v3 : Int32) (v4 : Int32)  (M : MM) : Prop := Ev G 59 [(0, .ref 72), (1, .int v1), (2, .int v2), (3, .int v3), (4, .int v4)] [] M
set_option maxHeartbeats 4000000 in
set_option maxRecDepth 100000 in
theorem b_X10_flows_3 {G : GC} {n : Nat} {r : Option Value} {M' : MM} (g : Good G mX10_flows n) (gr : GoodR G r M') (hn : 2 ≤ n)  (v1 : Int32) (v2 : Int32) (v3 : Int32) (v4 : Int32)  (M : MM) (h : ((((M.1 72 0) : Int32) ≤ v4 → At_X10_flows_59 G v1 v2 v3 0 M) ∧ (¬ (((M.1 72 0) : Int32) ≤ v4) → (vp_in v4 6) ∧ (∀ M3 : MM, M3 = ui M 75 v4.toNatClampNeg ((M.1 75 v4.toNatClampNeg) + (v1 * (M.1 73 v4.toNatClampNeg))) → (∀ M4 : MM, M4 = ui M3 78 v4.toNatClampNeg ((M3.1 78 v4.toNatClampNeg) + (v1 * (M3.1 73 v4.toNatClampNeg))) → (∀ x5 : Int32, x5 = v4 + 1 → At_X10_flows_3 G v1 v2 v3 x5 M4)))))) : At_X10_flows_3 G v1 v2 v3 v4 M := by
  unfold At_X10_flows_3
  refine e_iload (pc := 3) g 4 dX10_flows_3 rfl ?_
  refine e_aload_n (pc := 5) g 0 dX10_flows_5 rfl ?_
  refine e_getI (pc := 6) g fl_X10_113 sh_72 rfl dX10_flows_6 ?_
  refine e_icmp_ge (pc := 9) g 56 dX10_flows_9 (by decide) (fun c1 => ?_) (fun c1 => ?_)
  · have h := h.1 c1
    refine e_iconst (pc := 56) g 0 dX10_flows_56 kc_0 ?_
    refine e_istore (pc := 57) g [(0, .ref 72), (1, .int v1), (2, .int v2), (3, .int v3), (4, .int 0)] dX10_flows_57 (by decide) rfl ?_
    exact h
  · have h := h.2 c1
    refine e_aload_n (pc := 12) g 0 dX10_flows_12 rfl ?_
    refine e_getR (pc := 13) g 75 fl_X10_16 sh_72 rfl dX10_flows_13 ?_
    refine e_iload (pc := 16) g 4 dX10_flows_16 rfl ?_
    refine e_dup2 (pc := 18) g dX10_flows_18 rfl rfl ?_
    obtain ⟨o2, h⟩ := h
    refine e_iald (pc := 19) g sh_75 o2 dX10_flows_19 ?_
    refine e_iload_n (pc := 20) g 1 dX10_flows_20 rfl ?_
    refine e_aload_n (pc := 21) g 0 dX10_flows_21 rfl ?_
    refine e_getR (pc := 22) g 73 fl_X10_7 sh_72 rfl dX10_flows_22 ?_
    refine e_iload (pc := 25) g 4 dX10_flows_25 rfl ?_
    refine e_iald (pc := 27) g sh_73 o2 dX10_flows_27 ?_
    refine e_imul (pc := 28) g dX10_flows_28 ?_
    refine e_iadd (pc := 29) g dX10_flows_29 ?_
    refine e_iast (pc := 30) g sh_75 o2 dX10_flows_30 ?_
    obtain ⟨M3, qM3⟩ : ∃ y : MM, y = ui M 75 v4.toNatClampNeg ((M.1 75 v4.toNatClampNeg) + (v1 * (M.1 73 v4.toNatClampNeg))) := ⟨_, rfl⟩
    have h := h M3 qM3
    refine e_to (M' := M3) rfl rfl (by rw [qM3]) ?_
    refine e_aload_n (pc := 31) g 0 dX10_flows_31 rfl ?_
    refine e_getR (pc := 32) g 78 fl_X10_25 sh_72 rfl dX10_flows_32 ?_
    refine e_iload (pc := 35) g 4 dX10_flows_35 rfl ?_
    refine e_dup2 (pc := 37) g dX10_flows_37 rfl rfl ?_
    refine e_iald (pc := 38) g sh_78 o2 dX10_flows_38 ?_
    refine e_iload_n (pc := 39) g 1 dX10_flows_39 rfl ?_
    refine e_aload_n (pc := 40) g 0 dX10_flows_40 rfl ?_
    refine e_getR (pc := 41) g 73 fl_X10_7 sh_72 rfl dX10_flows_41 ?_
    refine e_iload (pc := 44) g 4 dX10_flows_44 rfl ?_
    refine e_iald (pc := 46) g sh_73 o2 dX10_flows_46 ?_
    refine e_imul (pc := 47) g dX10_flows_47 ?_
    refine e_iadd (pc := 48) g dX10_flows_48 ?_
    refine e_iast (pc := 49) g sh_78 o2 dX10_flows_49 ?_
    obtain ⟨M4, qM4⟩ : ∃ y : MM, y = ui M3 78 v4.toNatClampNeg ((M3.1 78 v4.toNatClampNeg) + (v1 * (M3.1 73 v4.toNatClampNeg))) := ⟨_, rfl⟩
    have h := h M4 qM4
    refine e_to (M' := M4) rfl rfl (by rw [qM4]) ?_
    obtain ⟨x5, qx5⟩ : ∃ y : Int32, y = v4 + 1 := ⟨_, rfl⟩
    have h := h x5 qx5
    refine e_iinc (pc := 50) g 4 x5 [(0, .ref 72), (1, .int v1), (2, .int v2), (3, .int v3), (4, .int x5)] dX10_flows_50 rfl (by rw [qx5]; rfl) (by decide) rfl ?_
    refine e_goto (pc := 53) g 3 dX10_flows_53 (by decide) ?_
    exact h
/-- at the cut 277 of X10_flows -/
def At_X10_flows_277 (G : GC)  (v1 : Int32) (v2 : Int32) (v3 : Int32) (v4 : Int32)  (M : MM) : Prop := Ev G 277 [(0, .ref 72), (1, .int v1), (2, .int v2), (3, .int v3), (4, .int v4)] [] M
/-- at the cut 124 of X10_flows -/
def At_X10_flows_124 (G : GC)  (v1 : Int32) (v2 : Int32) (v3 : Int32) (v4 : Int32) (v5 : Int32) (v6 : Int32) (v7 : Int32) (t0 : Int32) (t1 : Int32) (M : MM) : Prop := Ev G 124 [(0, .ref 72), (1, .int v1), (2, .int v2), (3, .int v3), (4, .int v4), (5, .int v5), (6, .int v6), (7, .int v7)] [.int t1, .int t0] M
set_option maxHeartbeats 4000000 in
set_option maxRecDepth 100000 in
theorem b_X10_flows_59 {G : GC} {n : Nat} {r : Option Value} {M' : MM} (g : Good G mX10_flows n) (gr : GoodR G r M') (hn : 2 ≤ n)  (v1 : Int32) (v2 : Int32) (v3 : Int32) (v4 : Int32)  (M : MM) (h : ((((M.1 72 8) : Int32) ≤ v4 → At_X10_flows_277 G v1 v2 v3 0 M) ∧ (¬ (((M.1 72 8) : Int32) ≤ v4) → (vp_in v4 8) ∧ (∀ x3 : Int32, x3 = (M.1 80 v4.toNatClampNeg) → (∀ x4 : Int32, x4 = (M.1 81 v4.toNatClampNeg) → (∃ (r7 : Int32) (M5 : MM), Fn 1 mX10_level [.ref 72, .int x4] M (some (.int r7)) M5 ∧ (∃ (r10 : Int32) (M8 : MM), Fn 1 mX10_level [.ref 72, .int x3] M5 (some (.int r10)) M8 ∧ (((M8.1 82 v4.toNatClampNeg) ≤ (r7 : Int32) → At_X10_flows_124 G v1 v2 v3 v4 x3 x4 r7 r10 r7 M8) ∧ (¬ ((M8.1 82 v4.toNatClampNeg) ≤ (r7 : Int32)) → At_X10_flows_124 G v1 v2 v3 v4 x3 x4 r7 r10 (M8.1 82 v4.toNatClampNeg) M8))))))))) : At_X10_flows_59 G v1 v2 v3 v4 M := by
  unfold At_X10_flows_59
  refine e_iload (pc := 59) g 4 dX10_flows_59 rfl ?_
  refine e_aload_n (pc := 61) g 0 dX10_flows_61 rfl ?_
  refine e_getI (pc := 62) g fl_X10_147 sh_72 rfl dX10_flows_62 ?_
  refine e_icmp_ge (pc := 65) g 274 dX10_flows_65 (by decide) (fun c1 => ?_) (fun c1 => ?_)
  · have h := h.1 c1
    refine e_iconst (pc := 274) g 0 dX10_flows_274 kc_0 ?_
    refine e_istore (pc := 275) g [(0, .ref 72), (1, .int v1), (2, .int v2), (3, .int v3), (4, .int 0)] dX10_flows_275 (by decide) rfl ?_
    exact h
  · have h := h.2 c1
    refine e_aload_n (pc := 68) g 0 dX10_flows_68 rfl ?_
    refine e_getR (pc := 69) g 80 fl_X10_31 sh_72 rfl dX10_flows_69 ?_
    refine e_iload (pc := 72) g 4 dX10_flows_72 rfl ?_
    obtain ⟨o2, h⟩ := h
    refine e_iald (pc := 74) g sh_80 o2 dX10_flows_74 ?_
    obtain ⟨x3, qx3⟩ : ∃ y : Int32, y = (M.1 80 v4.toNatClampNeg) := ⟨_, rfl⟩
    have h := h x3 qx3
    refine e_to (S' := [.int x3]) rfl (by rw [qx3]) rfl ?_
    refine e_istore (pc := 75) g [(0, .ref 72), (1, .int v1), (2, .int v2), (3, .int v3), (4, .int v4), (5, .int x3)] dX10_flows_75 (by decide) rfl ?_
    refine e_aload_n (pc := 77) g 0 dX10_flows_77 rfl ?_
    refine e_getR (pc := 78) g 81 fl_X10_34 sh_72 rfl dX10_flows_78 ?_
    refine e_iload (pc := 81) g 4 dX10_flows_81 rfl ?_
    refine e_iald (pc := 83) g sh_81 o2 dX10_flows_83 ?_
    obtain ⟨x4, qx4⟩ : ∃ y : Int32, y = (M.1 81 v4.toNatClampNeg) := ⟨_, rfl⟩
    have h := h x4 qx4
    refine e_to (S' := [.int x4]) rfl (by rw [qx4]) rfl ?_
    refine e_istore (pc := 84) g [(0, .ref 72), (1, .int v1), (2, .int v2), (3, .int v3), (4, .int v4), (5, .int x3), (6, .int x4)] dX10_flows_84 (by decide) rfl ?_
    refine e_aload_n (pc := 86) g 0 dX10_flows_86 rfl ?_
    refine e_iload (pc := 87) g 6 dX10_flows_87 rfl ?_
    obtain ⟨r7, M5, f6, h⟩ := h
    refine e_callV (As := [.int x4]) (S := []) (pc := 89) g ok_X10_level ml_X10_137 sh_72 ⟨_, rfl, rfl⟩ f6 (by omega) rfl (Nat.le_of_ble_eq_true rfl) dX10_flows_89 ?_
    refine e_to (S' := [.int r7]) rfl rfl rfl ?_
    refine e_istore (pc := 92) g [(0, .ref 72), (1, .int v1), (2, .int v2), (3, .int v3), (4, .int v4), (5, .int x3), (6, .int x4), (7, .int r7)] dX10_flows_92 (by decide) rfl ?_
    refine e_aload_n (pc := 94) g 0 dX10_flows_94 rfl ?_
    refine e_iload (pc := 95) g 5 dX10_flows_95 rfl ?_
    obtain ⟨r10, M8, f9, h⟩ := h
    refine e_callV (As := [.int x3]) (S := []) (pc := 97) g ok_X10_level ml_X10_137 sh_72 ⟨_, rfl, rfl⟩ f9 (by omega) rfl (Nat.le_of_ble_eq_true rfl) dX10_flows_97 ?_
    refine e_to (S' := [.int r10]) rfl rfl rfl ?_
    refine e_aload_n (pc := 100) g 0 dX10_flows_100 rfl ?_
    refine e_getR (pc := 101) g 82 fl_X10_37 sh_72 rfl dX10_flows_101 ?_
    refine e_iload (pc := 104) g 4 dX10_flows_104 rfl ?_
    refine e_iald (pc := 106) g sh_82 o2 dX10_flows_106 ?_
    refine e_iload (pc := 107) g 7 dX10_flows_107 rfl ?_
    refine e_icmp_le (pc := 109) g 122 dX10_flows_109 (by decide) (fun c11 => ?_) (fun c11 => ?_)
    · have h := h.1 c11
      refine e_iload (pc := 122) g 7 dX10_flows_122 rfl ?_
      exact h
    · have h := h.2 c11
      refine e_aload_n (pc := 112) g 0 dX10_flows_112 rfl ?_
      refine e_getR (pc := 113) g 82 fl_X10_37 sh_72 rfl dX10_flows_113 ?_
      refine e_iload (pc := 116) g 4 dX10_flows_116 rfl ?_
      refine e_iald (pc := 118) g sh_82 o2 dX10_flows_118 ?_
      refine e_goto (pc := 119) g 124 dX10_flows_119 (by decide) ?_
      exact h
/-- at the cut 408 of X10_flows -/
def At_X10_flows_408 (G : GC)  (v1 : Int32) (v2 : Int32) (v3 : Int32) (v4 : Int32)  (M : MM) : Prop := Ev G 408 [(0, .ref 72), (1, .int v1), (2, .int v2), (3, .int v3), (4, .int v4)] [] M
/-- at the cut 322 of X10_flows -/
def At_X10_flows_322 (G : GC)  (v1 : Int32) (v2 : Int32) (v3 : Int32) (v4 : Int32) (t0 : Int32) (M : MM) : Prop := Ev G 322 [(0, .ref 72), (1, .int v1), (2, .int v2), (3, .int v3), (4, .int v4)] [.int t0] M
set_option maxHeartbeats 4000000 in
set_option maxRecDepth 100000 in
theorem b_X10_flows_277 {G : GC} {n : Nat} {r : Option Value} {M' : MM} (g : Good G mX10_flows n) (gr : GoodR G r M') (hn : 2 ≤ n)  (v1 : Int32) (v2 : Int32) (v3 : Int32) (v4 : Int32)  (M : MM) (h : ((((M.1 72 13) : Int32) ≤ v4 → At_X10_flows_408 G v1 v2 v3 0 M) ∧ (¬ (((M.1 72 13) : Int32) ≤ v4) → ((¬ ((v3 >>> (v4 &&& 31)) &&& 1) = (1 : Int32) → At_X10_flows_322 G v1 v2 v3 v4 0 M) ∧ (((v3 >>> (v4 &&& 31)) &&& 1) = (1 : Int32) → (vp_in v4 4) ∧ (vp_in (M.1 84 v4.toNatClampNeg) 6) ∧ (∃ (r7 : Int32) (M5 : MM), Fn 1 mX10_less [.int (M.1 86 v4.toNatClampNeg), .int (M.1 75 (M.1 84 v4.toNatClampNeg).toNatClampNeg)] M (some (.int r7)) M5 ∧ At_X10_flows_322 G v1 v2 v3 v4 r7 M5)))))) : At_X10_flows_277 G v1 v2 v3 v4 M := by
  unfold At_X10_flows_277
  refine e_iload (pc := 277) g 4 dX10_flows_277 rfl ?_
  refine e_aload_n (pc := 279) g 0 dX10_flows_279 rfl ?_
  refine e_getI (pc := 280) g fl_X10_154 sh_72 rfl dX10_flows_280 ?_
  refine e_icmp_ge (pc := 283) g 405 dX10_flows_283 (by decide) (fun c1 => ?_) (fun c1 => ?_)
  · have h := h.1 c1
    refine e_iconst (pc := 405) g 0 dX10_flows_405 kc_0 ?_
    refine e_istore (pc := 406) g [(0, .ref 72), (1, .int v1), (2, .int v2), (3, .int v3), (4, .int 0)] dX10_flows_406 (by decide) rfl ?_
    exact h
  · have h := h.2 c1
    refine e_iload_n (pc := 286) g 3 dX10_flows_286 rfl ?_
    refine e_iload (pc := 287) g 4 dX10_flows_287 rfl ?_
    refine e_ishr (pc := 289) g dX10_flows_289 ?_
    refine e_iconst (pc := 290) g 1 dX10_flows_290 kc_1 ?_
    refine e_iand (pc := 291) g dX10_flows_291 ?_
    refine e_iconst (pc := 292) g 1 dX10_flows_292 kc_1 ?_
    refine e_icmp_ne (pc := 293) g 321 dX10_flows_293 (by decide) (fun c2 => ?_) (fun c2 => ?_)
    · have h := h.1 c2
      refine e_iconst (pc := 321) g 0 dX10_flows_321 kc_0 ?_
      exact h
    · have h := h.2 c2
      refine e_aload_n (pc := 296) g 0 dX10_flows_296 rfl ?_
      refine e_getR (pc := 297) g 86 fl_X10_49 sh_72 rfl dX10_flows_297 ?_
      refine e_iload (pc := 300) g 4 dX10_flows_300 rfl ?_
      obtain ⟨o3, h⟩ := h
      refine e_iald (pc := 302) g sh_86 o3 dX10_flows_302 ?_
      refine e_aload_n (pc := 303) g 0 dX10_flows_303 rfl ?_
      refine e_getR (pc := 304) g 75 fl_X10_16 sh_72 rfl dX10_flows_304 ?_
      refine e_aload_n (pc := 307) g 0 dX10_flows_307 rfl ?_
      refine e_getR (pc := 308) g 84 fl_X10_43 sh_72 rfl dX10_flows_308 ?_
      refine e_iload (pc := 311) g 4 dX10_flows_311 rfl ?_
      refine e_iald (pc := 313) g sh_84 o3 dX10_flows_313 ?_
      obtain ⟨o4, h⟩ := h
      refine e_iald (pc := 314) g sh_75 o4 dX10_flows_314 ?_
      obtain ⟨r7, M5, f6, h⟩ := h
      refine e_callS (As := [.int (M.1 86 v4.toNatClampNeg), .int (M.1 75 (M.1 84 v4.toNatClampNeg).toNatClampNeg)]) (S := []) (pc := 315) g ok_X10_less ml_X10_175 f6 (by omega) rfl (Nat.le_of_ble_eq_true rfl) dX10_flows_315 ?_
      refine e_to (S' := [.int r7]) rfl rfl rfl ?_
      refine e_goto (pc := 318) g 322 dX10_flows_318 (by decide) ?_
      exact h
/-- at the cut 235 of X10_flows -/
def At_X10_flows_235 (G : GC)  (v1 : Int32) (v2 : Int32) (v3 : Int32) (v4 : Int32) (v5 : Int32) (v6 : Int32) (v7 : Int32) (v8 : Int32) (v9 : Int32)  (M : MM) : Prop := Ev G 235 [(0, .ref 72), (1, .int v1), (2, .int v2), (3, .int v3), (4, .int v4), (5, .int v5), (6, .int v6), (7, .int v7), (8, .int v8), (9, .int v9)] [] M
set_option maxHeartbeats 4000000 in
set_option maxRecDepth 100000 in
theorem b_X10_flows_124 {G : GC} {n : Nat} {r : Option Value} {M' : MM} (g : Good G mX10_flows n) (gr : GoodR G r M') (hn : 2 ≤ n)  (v1 : Int32) (v2 : Int32) (v3 : Int32) (v4 : Int32) (v5 : Int32) (v6 : Int32) (v7 : Int32) (t0 : Int32) (t1 : Int32)  (M : MM) (h : (∀ x1 : Int32, x1 = (t0 - t1) → ((x1 ≤ (0 : Int32) → At_X10_flows_235 G v1 v2 v3 v4 v5 v6 v7 x1 0 M) ∧ (¬ (x1 ≤ (0 : Int32)) → (vp_in v5 6) ∧ (vp_in v6 6) ∧ (¬ (((M.1 73 v5.toNatClampNeg) + (M.1 73 v6.toNatClampNeg)).toInt64) = (0 : Int64)) ∧ (∀ x6 : Int64, x6 = (((((M.1 73 v5.toNatClampNeg).toInt64) * ((M.1 73 v6.toNatClampNeg).toInt64)) * (x1.toInt64)) / (((M.1 73 v5.toNatClampNeg) + (M.1 73 v6.toNatClampNeg)).toInt64)) → (vp_in v4 8) ∧ (∀ x8 : Int64, x8 = (((M.1 83 v4.toNatClampNeg).toInt64) * (x1.toInt64)) → (∀ x10 : Int64, x10 = (if x8 ≥ (x6 : Int64) then x6 else x8) → ((x10 ≥ (((M.1 75 v5.toNatClampNeg).toInt64) : Int64) → (∀ x12 : Int32, x12 = (M.1 75 v5.toNatClampNeg) → At_X10_flows_235 G v1 v2 v3 v4 v5 v6 v7 x1 x12 M)) ∧ (¬ (x10 ≥ (((M.1 75 v5.toNatClampNeg).toInt64) : Int64)) → (∀ x13 : Int32, x13 = (x10.toInt32) → At_X10_flows_235 G v1 v2 v3 v4 v5 v6 v7 x1 x13 M)))))))))) : At_X10_flows_124 G v1 v2 v3 v4 v5 v6 v7 t0 t1 M := by
  unfold At_X10_flows_124
  refine e_isub (pc := 124) g dX10_flows_124 ?_
  obtain ⟨x1, qx1⟩ : ∃ y : Int32, y = (t0 - t1) := ⟨_, rfl⟩
  have h := h x1 qx1
  refine e_to (S' := [.int x1]) rfl (by rw [qx1]) rfl ?_
  refine e_istore (pc := 125) g [(0, .ref 72), (1, .int v1), (2, .int v2), (3, .int v3), (4, .int v4), (5, .int v5), (6, .int v6), (7, .int v7), (8, .int x1)] dX10_flows_125 (by decide) rfl ?_
  refine e_iconst (pc := 127) g 0 dX10_flows_127 kc_0 ?_
  refine e_istore (pc := 128) g [(0, .ref 72), (1, .int v1), (2, .int v2), (3, .int v3), (4, .int v4), (5, .int v5), (6, .int v6), (7, .int v7), (8, .int x1), (9, .int 0)] dX10_flows_128 (by decide) rfl ?_
  refine e_iload (pc := 130) g 8 dX10_flows_130 rfl ?_
  refine e_if_le (pc := 132) g 235 dX10_flows_132 (by decide) (fun c2 => ?_) (fun c2 => ?_)
  · have h := h.1 c2
    exact h
  · have h := h.2 c2
    refine e_aload_n (pc := 135) g 0 dX10_flows_135 rfl ?_
    refine e_getR (pc := 136) g 73 fl_X10_7 sh_72 rfl dX10_flows_136 ?_
    refine e_iload (pc := 139) g 5 dX10_flows_139 rfl ?_
    obtain ⟨o3, h⟩ := h
    refine e_iald (pc := 141) g sh_73 o3 dX10_flows_141 ?_
    refine e_i2l (pc := 142) g dX10_flows_142 ?_
    refine e_aload_n (pc := 143) g 0 dX10_flows_143 rfl ?_
    refine e_getR (pc := 144) g 73 fl_X10_7 sh_72 rfl dX10_flows_144 ?_
    refine e_iload (pc := 147) g 6 dX10_flows_147 rfl ?_
    obtain ⟨o4, h⟩ := h
    refine e_iald (pc := 149) g sh_73 o4 dX10_flows_149 ?_
    refine e_i2l (pc := 150) g dX10_flows_150 ?_
    refine e_lmul (pc := 151) g dX10_flows_151 ?_
    refine e_iload (pc := 152) g 8 dX10_flows_152 rfl ?_
    refine e_i2l (pc := 154) g dX10_flows_154 ?_
    refine e_lmul (pc := 155) g dX10_flows_155 ?_
    refine e_aload_n (pc := 156) g 0 dX10_flows_156 rfl ?_
    refine e_getR (pc := 157) g 73 fl_X10_7 sh_72 rfl dX10_flows_157 ?_
    refine e_iload (pc := 160) g 5 dX10_flows_160 rfl ?_
    refine e_iald (pc := 162) g sh_73 o3 dX10_flows_162 ?_
    refine e_aload_n (pc := 163) g 0 dX10_flows_163 rfl ?_
    refine e_getR (pc := 164) g 73 fl_X10_7 sh_72 rfl dX10_flows_164 ?_
    refine e_iload (pc := 167) g 6 dX10_flows_167 rfl ?_
    refine e_iald (pc := 169) g sh_73 o4 dX10_flows_169 ?_
    refine e_iadd (pc := 170) g dX10_flows_170 ?_
    refine e_i2l (pc := 171) g dX10_flows_171 ?_
    obtain ⟨o5, h⟩ := h
    refine e_ldiv (pc := 172) g dX10_flows_172 o5 ?_
    obtain ⟨x6, qx6⟩ : ∃ y : Int64, y = (((((M.1 73 v5.toNatClampNeg).toInt64) * ((M.1 73 v6.toNatClampNeg).toInt64)) * (x1.toInt64)) / (((M.1 73 v5.toNatClampNeg) + (M.1 73 v6.toNatClampNeg)).toInt64)) := ⟨_, rfl⟩
    have h := h x6 qx6
    refine e_to (S' := [.long x6]) rfl (by rw [qx6]) rfl ?_
    refine e_lstore (pc := 173) g [(0, .ref 72), (1, .int v1), (2, .int v2), (3, .int v3), (4, .int v4), (5, .int v5), (6, .int v6), (7, .int v7), (8, .int x1), (9, .int 0), (10, .long x6)] dX10_flows_173 (by decide) rfl ?_
    refine e_aload_n (pc := 175) g 0 dX10_flows_175 rfl ?_
    refine e_getR (pc := 176) g 83 fl_X10_40 sh_72 rfl dX10_flows_176 ?_
    refine e_iload (pc := 179) g 4 dX10_flows_179 rfl ?_
    obtain ⟨o7, h⟩ := h
    refine e_iald (pc := 181) g sh_83 o7 dX10_flows_181 ?_
    refine e_i2l (pc := 182) g dX10_flows_182 ?_
    refine e_iload (pc := 183) g 8 dX10_flows_183 rfl ?_
    refine e_i2l (pc := 185) g dX10_flows_185 ?_
    refine e_lmul (pc := 186) g dX10_flows_186 ?_
    obtain ⟨x8, qx8⟩ : ∃ y : Int64, y = (((M.1 83 v4.toNatClampNeg).toInt64) * (x1.toInt64)) := ⟨_, rfl⟩
    have h := h x8 qx8
    refine e_to (S' := [.long x8]) rfl (by rw [qx8]) rfl ?_
    refine e_lstore (pc := 187) g [(0, .ref 72), (1, .int v1), (2, .int v2), (3, .int v3), (4, .int v4), (5, .int v5), (6, .int v6), (7, .int v7), (8, .int x1), (9, .int 0), (10, .long x6), (12, .long x8)] dX10_flows_187 (by decide) rfl ?_
    refine e_lload (pc := 189) g 11 dX10_flows_189 rfl ?_
    refine e_lload (pc := 191) g 10 dX10_flows_191 rfl ?_
    refine e_lcmp (pc := 193) g dX10_flows_193 ?_
    have hj : Ev G 204 [(0, .ref 72), (1, .int v1), (2, .int v2), (3, .int v3), (4, .int v4), (5, .int v5), (6, .int v6), (7, .int v7), (8, .int x1), (9, .int 0), (10, .long x6), (12, .long x8)] [.long (if x8 ≥ (x6 : Int64) then x6 else x8)] M := by
      obtain ⟨x10, qx10⟩ : ∃ y : Int64, y = (if x8 ≥ (x6 : Int64) then x6 else x8) := ⟨_, rfl⟩
      have h := h x10 qx10
      refine e_to (S' := [.long x10]) rfl (by rw [qx10]) rfl ?_
      refine e_lstore (pc := 204) g [(0, .ref 72), (1, .int v1), (2, .int v2), (3, .int v3), (4, .int v4), (5, .int v5), (6, .int v6), (7, .int v7), (8, .int x1), (9, .int 0), (10, .long x6), (12, .long x8), (14, .long x10)] dX10_flows_204 (by decide) rfl ?_
      refine e_lload (pc := 206) g 12 dX10_flows_206 rfl ?_
      refine e_aload_n (pc := 208) g 0 dX10_flows_208 rfl ?_
      refine e_getR (pc := 209) g 75 fl_X10_16 sh_72 rfl dX10_flows_209 ?_
      refine e_iload (pc := 212) g 5 dX10_flows_212 rfl ?_
      refine e_iald (pc := 214) g sh_75 o3 dX10_flows_214 ?_
      refine e_i2l (pc := 215) g dX10_flows_215 ?_
      refine e_lcmp (pc := 216) g dX10_flows_216 ?_
      refine e_if_ge (pc := 217) g 226 dX10_flows_217 (by decide) (fun c11 => ?_) (fun c11 => ?_)
      · have h := h.1 (lc_ge.mp c11)
        refine e_aload_n (pc := 226) g 0 dX10_flows_226 rfl ?_
        refine e_getR (pc := 227) g 75 fl_X10_16 sh_72 rfl dX10_flows_227 ?_
        refine e_iload (pc := 230) g 5 dX10_flows_230 rfl ?_
        refine e_iald (pc := 232) g sh_75 o3 dX10_flows_232 ?_
        obtain ⟨x12, qx12⟩ : ∃ y : Int32, y = (M.1 75 v5.toNatClampNeg) := ⟨_, rfl⟩
        have h := h x12 qx12
        refine e_to (S' := [.int x12]) rfl (by rw [qx12]) rfl ?_
        refine e_istore (pc := 233) g [(0, .ref 72), (1, .int v1), (2, .int v2), (3, .int v3), (4, .int v4), (5, .int v5), (6, .int v6), (7, .int v7), (8, .int x1), (9, .int x12), (10, .long x6), (12, .long x8), (14, .long x10)] dX10_flows_233 (by decide) rfl ?_
        refine e_sub [(0, .ref 72), (1, .int v1), (2, .int v2), (3, .int v3), (4, .int v4), (5, .int v5), (6, .int v6), (7, .int v7), (8, .int x1), (9, .int x12)] [0, 1, 2, 3, 4, 5, 6, 7, 8, 9] rfl ?_
        exact h
      · have h := h.2 (fun z => c11 (lc_ge.mpr z))
        refine e_lload (pc := 220) g 12 dX10_flows_220 rfl ?_
        refine e_l2i (pc := 222) g dX10_flows_222 ?_
        refine e_goto (pc := 223) g 233 dX10_flows_223 (by decide) ?_
        obtain ⟨x13, qx13⟩ : ∃ y : Int32, y = (x10.toInt32) := ⟨_, rfl⟩
        have h := h x13 qx13
        refine e_to (S' := [.int x13]) rfl (by rw [qx13]) rfl ?_
        refine e_istore (pc := 233) g [(0, .ref 72), (1, .int v1), (2, .int v2), (3, .int v3), (4, .int v4), (5, .int v5), (6, .int v6), (7, .int v7), (8, .int x1), (9, .int x13), (10, .long x6), (12, .long x8), (14, .long x10)] dX10_flows_233 (by decide) rfl ?_
        refine e_sub [(0, .ref 72), (1, .int v1), (2, .int v2), (3, .int v3), (4, .int v4), (5, .int v5), (6, .int v6), (7, .int v7), (8, .int x1), (9, .int x13)] [0, 1, 2, 3, 4, 5, 6, 7, 8, 9] rfl ?_
        exact h
    refine e_if_ge (pc := 194) g 202 dX10_flows_194 (by decide) (fun c9 => ?_) (fun c9 => ?_)
    · rw [if_pos (lc_ge.mp c9)] at hj
      refine e_lload (pc := 202) g 10 dX10_flows_202 rfl ?_
      exact hj
    · rw [if_neg (fun z => c9 (lc_ge.mpr z))] at hj
      refine e_lload (pc := 197) g 11 dX10_flows_197 rfl ?_
      refine e_goto (pc := 199) g 204 dX10_flows_199 (by decide) ?_
      exact hj
/-- at the cut 507 of X10_flows -/
def At_X10_flows_507 (G : GC)  (v1 : Int32) (v2 : Int32) (v3 : Int32) (v4 : Int32) (v5 : Int32) (v6 : Int64) (t0 : Int32) (M : MM) : Prop := Ev G 507 [(0, .ref 72), (1, .int v1), (2, .int v2), (3, .int v3), (4, .int v4), (5, .int v5), (6, .long v6)] [.int t0] M
set_option maxHeartbeats 4000000 in
set_option maxRecDepth 100000 in
theorem b_X10_flows_408 {G : GC} {n : Nat} {r : Option Value} {M' : MM} (g : Good G mX10_flows n) (gr : GoodR G r M') (hn : 2 ≤ n)  (v1 : Int32) (v2 : Int32) (v3 : Int32) (v4 : Int32)  (M : MM) (h : ((((M.1 72 21) : Int32) ≤ v4 → (r = none ∧ M' = M)) ∧ (¬ (((M.1 72 21) : Int32) ≤ v4) → (vp_in v4 4) ∧ (∃ (r5 : Int32) (M3 : MM), Fn 1 mX10_level [.ref 72, .int (M.1 91 v4.toNatClampNeg)] M (some (.int r5)) M3 ∧ (vp_in v2 24) ∧ (∀ x7 : Int32, x7 = (r5 - (M3.1 94 v2.toNatClampNeg)) → (∀ x8 : Int64, x8 = (((M3.1 92 v4.toNatClampNeg).toInt64) * (x7.toInt64)) → (((M3.1 93 v4.toNatClampNeg) = (0 : Int32) → At_X10_flows_507 G v1 v2 v3 v4 x7 x8 0 M3) ∧ (¬ ((M3.1 93 v4.toNatClampNeg) = (0 : Int32)) → (((0 : Int32) < x7 → (vp_in (M3.1 91 v4.toNatClampNeg) 6) ∧ ((x8 ≥ (((M3.1 75 (M3.1 91 v4.toNatClampNeg).toNatClampNeg).toInt64) : Int64) → At_X10_flows_507 G v1 v2 v3 v4 x7 x8 (M3.1 75 (M3.1 91 v4.toNatClampNeg).toNatClampNeg) M3) ∧ (¬ (x8 ≥ (((M3.1 75 (M3.1 91 v4.toNatClampNeg).toNatClampNeg).toInt64) : Int64)) → At_X10_flows_507 G v1 v2 v3 v4 x7 x8 (x8.toInt32) M3))) ∧ (¬ ((0 : Int32) < x7) → At_X10_flows_507 G v1 v2 v3 v4 x7 x8 0 M3)))))))))) : At_X10_flows_408 G v1 v2 v3 v4 M := by
  unfold At_X10_flows_408
  refine e_iload (pc := 408) g 4 dX10_flows_408 rfl ?_
  refine e_aload_n (pc := 410) g 0 dX10_flows_410 rfl ?_
  refine e_getI (pc := 411) g fl_X10_157 sh_72 rfl dX10_flows_411 ?_
  refine e_icmp_ge (pc := 414) g 558 dX10_flows_414 (by decide) (fun c1 => ?_) (fun c1 => ?_)
  · have h := h.1 c1
    exact e_vret (pc := 558) g gr rfl dX10_flows_558 h
  · have h := h.2 c1
    refine e_aload_n (pc := 417) g 0 dX10_flows_417 rfl ?_
    refine e_aload_n (pc := 418) g 0 dX10_flows_418 rfl ?_
    refine e_getR (pc := 419) g 91 fl_X10_65 sh_72 rfl dX10_flows_419 ?_
    refine e_iload (pc := 422) g 4 dX10_flows_422 rfl ?_
    obtain ⟨o2, h⟩ := h
    refine e_iald (pc := 424) g sh_91 o2 dX10_flows_424 ?_
    obtain ⟨r5, M3, f4, h⟩ := h
    refine e_callV (As := [.int (M.1 91 v4.toNatClampNeg)]) (S := []) (pc := 425) g ok_X10_level ml_X10_137 sh_72 ⟨_, rfl, rfl⟩ f4 (by omega) rfl (Nat.le_of_ble_eq_true rfl) dX10_flows_425 ?_
    refine e_to (S' := [.int r5]) rfl rfl rfl ?_
    refine e_aload_n (pc := 428) g 0 dX10_flows_428 rfl ?_
    refine e_getR (pc := 429) g 94 fl_X10_74 sh_72 rfl dX10_flows_429 ?_
    refine e_iload_n (pc := 432) g 2 dX10_flows_432 rfl ?_
    obtain ⟨o6, h⟩ := h
    refine e_iald (pc := 433) g sh_94 o6 dX10_flows_433 ?_
    refine e_isub (pc := 434) g dX10_flows_434 ?_
    obtain ⟨x7, qx7⟩ : ∃ y : Int32, y = (r5 - (M3.1 94 v2.toNatClampNeg)) := ⟨_, rfl⟩
    have h := h x7 qx7
    refine e_to (S' := [.int x7]) rfl (by rw [qx7]) rfl ?_
    refine e_istore (pc := 435) g [(0, .ref 72), (1, .int v1), (2, .int v2), (3, .int v3), (4, .int v4), (5, .int x7)] dX10_flows_435 (by decide) rfl ?_
    refine e_aload_n (pc := 437) g 0 dX10_flows_437 rfl ?_
    refine e_getR (pc := 438) g 92 fl_X10_68 sh_72 rfl dX10_flows_438 ?_
    refine e_iload (pc := 441) g 4 dX10_flows_441 rfl ?_
    refine e_iald (pc := 443) g sh_92 o2 dX10_flows_443 ?_
    refine e_i2l (pc := 444) g dX10_flows_444 ?_
    refine e_iload (pc := 445) g 5 dX10_flows_445 rfl ?_
    refine e_i2l (pc := 447) g dX10_flows_447 ?_
    refine e_lmul (pc := 448) g dX10_flows_448 ?_
    obtain ⟨x8, qx8⟩ : ∃ y : Int64, y = (((M3.1 92 v4.toNatClampNeg).toInt64) * (x7.toInt64)) := ⟨_, rfl⟩
    have h := h x8 qx8
    refine e_to (S' := [.long x8]) rfl (by rw [qx8]) rfl ?_
    refine e_lstore (pc := 449) g [(0, .ref 72), (1, .int v1), (2, .int v2), (3, .int v3), (4, .int v4), (5, .int x7), (6, .long x8)] dX10_flows_449 (by decide) rfl ?_
    refine e_aload_n (pc := 451) g 0 dX10_flows_451 rfl ?_
    refine e_getR (pc := 452) g 93 fl_X10_71 sh_72 rfl dX10_flows_452 ?_
    refine e_iload (pc := 455) g 4 dX10_flows_455 rfl ?_
    refine e_zald (pc := 457) g sh_93 o2 dX10_flows_457 ?_
    refine e_if_eq (pc := 458) g 466 dX10_flows_458 (by decide) (fun c9 => ?_) (fun c9 => ?_)
    · have h := h.1 c9
      refine e_iconst (pc := 466) g 0 dX10_flows_466 kc_0 ?_
      refine e_goto (pc := 467) g 507 dX10_flows_467 (by decide) ?_
      exact h
    · have h := h.2 c9
      refine e_iload (pc := 461) g 5 dX10_flows_461 rfl ?_
      refine e_if_gt (pc := 463) g 470 dX10_flows_463 (by decide) (fun c10 => ?_) (fun c10 => ?_)
      · have h := h.1 c10
        refine e_lload (pc := 470) g 6 dX10_flows_470 rfl ?_
        refine e_aload_n (pc := 472) g 0 dX10_flows_472 rfl ?_
        refine e_getR (pc := 473) g 75 fl_X10_16 sh_72 rfl dX10_flows_473 ?_
        refine e_aload_n (pc := 476) g 0 dX10_flows_476 rfl ?_
        refine e_getR (pc := 477) g 91 fl_X10_65 sh_72 rfl dX10_flows_477 ?_
        refine e_iload (pc := 480) g 4 dX10_flows_480 rfl ?_
        refine e_iald (pc := 482) g sh_91 o2 dX10_flows_482 ?_
        obtain ⟨o11, h⟩ := h
        refine e_iald (pc := 483) g sh_75 o11 dX10_flows_483 ?_
        refine e_i2l (pc := 484) g dX10_flows_484 ?_
        refine e_lcmp (pc := 485) g dX10_flows_485 ?_
        refine e_if_ge (pc := 486) g 495 dX10_flows_486 (by decide) (fun c12 => ?_) (fun c12 => ?_)
        · have h := h.1 (lc_ge.mp c12)
          refine e_aload_n (pc := 495) g 0 dX10_flows_495 rfl ?_
          refine e_getR (pc := 496) g 75 fl_X10_16 sh_72 rfl dX10_flows_496 ?_
          refine e_aload_n (pc := 499) g 0 dX10_flows_499 rfl ?_
          refine e_getR (pc := 500) g 91 fl_X10_65 sh_72 rfl dX10_flows_500 ?_
          refine e_iload (pc := 503) g 4 dX10_flows_503 rfl ?_
          refine e_iald (pc := 505) g sh_91 o2 dX10_flows_505 ?_
          refine e_iald (pc := 506) g sh_75 o11 dX10_flows_506 ?_
          exact h
        · have h := h.2 (fun z => c12 (lc_ge.mpr z))
          refine e_lload (pc := 489) g 6 dX10_flows_489 rfl ?_
          refine e_l2i (pc := 491) g dX10_flows_491 ?_
          refine e_goto (pc := 492) g 507 dX10_flows_492 (by decide) ?_
          exact h
      · have h := h.2 c10
        refine e_iconst (pc := 466) g 0 dX10_flows_466 kc_0 ?_
        refine e_goto (pc := 467) g 507 dX10_flows_467 (by decide) ?_
        exact h
set_option maxHeartbeats 4000000 in
set_option maxRecDepth 100000 in
theorem b_X10_flows_322 {G : GC} {n : Nat} {r : Option Value} {M' : MM} (g : Good G mX10_flows n) (gr : GoodR G r M') (hn : 2 ≤ n)  (v1 : Int32) (v2 : Int32) (v3 : Int32) (v4 : Int32) (t0 : Int32)  (M : MM) (h : (vp_in v4 4) ∧ (∀ M2 : MM, M2 = ui M 97 v4.toNatClampNeg t0 → (vp_in (M2.1 84 v4.toNatClampNeg) 6) ∧ (∀ M4 : MM, M4 = ui M2 75 (M2.1 84 v4.toNatClampNeg).toNatClampNeg ((M2.1 75 (M2.1 84 v4.toNatClampNeg).toNatClampNeg) - t0) → ((¬ (M4.1 85 v4.toNatClampNeg) = ((-4) : Int32) → (vp_in (M4.1 85 v4.toNatClampNeg) 6) ∧ (∀ M7 : MM, M7 = ui M4 75 (M4.1 85 v4.toNatClampNeg).toNatClampNeg ((M4.1 75 (M4.1 85 v4.toNatClampNeg).toNatClampNeg) + t0) → (∀ x8 : Int32, x8 = v4 + 1 → At_X10_flows_277 G v1 v2 v3 x8 M7))) ∧ ((M4.1 85 v4.toNatClampNeg) = ((-4) : Int32) → (vp_in (M4.1 84 v4.toNatClampNeg) 6) ∧ (∀ M10 : MM, M10 = ui M4 79 (M4.1 84 v4.toNatClampNeg).toNatClampNeg ((M4.1 79 (M4.1 84 v4.toNatClampNeg).toNatClampNeg) + t0) → (∀ x11 : Int32, x11 = v4 + 1 → At_X10_flows_277 G v1 v2 v3 x11 M10))))))) : At_X10_flows_322 G v1 v2 v3 v4 t0 M := by
  unfold At_X10_flows_322
  refine e_istore (pc := 322) g [(0, .ref 72), (1, .int v1), (2, .int v2), (3, .int v3), (4, .int v4), (5, .int t0)] dX10_flows_322 (by decide) rfl ?_
  refine e_aload_n (pc := 324) g 0 dX10_flows_324 rfl ?_
  refine e_getR (pc := 325) g 97 fl_X10_83 sh_72 rfl dX10_flows_325 ?_
  refine e_iload (pc := 328) g 4 dX10_flows_328 rfl ?_
  refine e_iload (pc := 330) g 5 dX10_flows_330 rfl ?_
  obtain ⟨o1, h⟩ := h
  refine e_iast (pc := 332) g sh_97 o1 dX10_flows_332 ?_
  obtain ⟨M2, qM2⟩ : ∃ y : MM, y = ui M 97 v4.toNatClampNeg t0 := ⟨_, rfl⟩
  have h := h M2 qM2
  refine e_to (M' := M2) rfl rfl (by rw [qM2]) ?_
  refine e_aload_n (pc := 333) g 0 dX10_flows_333 rfl ?_
  refine e_getR (pc := 334) g 75 fl_X10_16 sh_72 rfl dX10_flows_334 ?_
  refine e_aload_n (pc := 337) g 0 dX10_flows_337 rfl ?_
  refine e_getR (pc := 338) g 84 fl_X10_43 sh_72 rfl dX10_flows_338 ?_
  refine e_iload (pc := 341) g 4 dX10_flows_341 rfl ?_
  refine e_iald (pc := 343) g sh_84 o1 dX10_flows_343 ?_
  refine e_dup2 (pc := 344) g dX10_flows_344 rfl rfl ?_
  obtain ⟨o3, h⟩ := h
  refine e_iald (pc := 345) g sh_75 o3 dX10_flows_345 ?_
  refine e_iload (pc := 346) g 5 dX10_flows_346 rfl ?_
  refine e_isub (pc := 348) g dX10_flows_348 ?_
  refine e_iast (pc := 349) g sh_75 o3 dX10_flows_349 ?_
  obtain ⟨M4, qM4⟩ : ∃ y : MM, y = ui M2 75 (M2.1 84 v4.toNatClampNeg).toNatClampNeg ((M2.1 75 (M2.1 84 v4.toNatClampNeg).toNatClampNeg) - t0) := ⟨_, rfl⟩
  have h := h M4 qM4
  refine e_to (M' := M4) rfl rfl (by rw [qM4]) ?_
  refine e_aload_n (pc := 350) g 0 dX10_flows_350 rfl ?_
  refine e_getR (pc := 351) g 85 fl_X10_46 sh_72 rfl dX10_flows_351 ?_
  refine e_iload (pc := 354) g 4 dX10_flows_354 rfl ?_
  refine e_iald (pc := 356) g sh_85 o1 dX10_flows_356 ?_
  refine e_bipush (pc := 357) g (-4) dX10_flows_357 kb_m4 ?_
  refine e_icmp_ne (pc := 359) g 382 dX10_flows_359 (by decide) (fun c5 => ?_) (fun c5 => ?_)
  · have h := h.1 c5
    refine e_aload_n (pc := 382) g 0 dX10_flows_382 rfl ?_
    refine e_getR (pc := 383) g 75 fl_X10_16 sh_72 rfl dX10_flows_383 ?_
    refine e_aload_n (pc := 386) g 0 dX10_flows_386 rfl ?_
    refine e_getR (pc := 387) g 85 fl_X10_46 sh_72 rfl dX10_flows_387 ?_
    refine e_iload (pc := 390) g 4 dX10_flows_390 rfl ?_
    refine e_iald (pc := 392) g sh_85 o1 dX10_flows_392 ?_
    refine e_dup2 (pc := 393) g dX10_flows_393 rfl rfl ?_
    obtain ⟨o6, h⟩ := h
    refine e_iald (pc := 394) g sh_75 o6 dX10_flows_394 ?_
    refine e_iload (pc := 395) g 5 dX10_flows_395 rfl ?_
    refine e_iadd (pc := 397) g dX10_flows_397 ?_
    refine e_iast (pc := 398) g sh_75 o6 dX10_flows_398 ?_
    obtain ⟨M7, qM7⟩ : ∃ y : MM, y = ui M4 75 (M4.1 85 v4.toNatClampNeg).toNatClampNeg ((M4.1 75 (M4.1 85 v4.toNatClampNeg).toNatClampNeg) + t0) := ⟨_, rfl⟩
    have h := h M7 qM7
    refine e_to (M' := M7) rfl rfl (by rw [qM7]) ?_
    obtain ⟨x8, qx8⟩ : ∃ y : Int32, y = v4 + 1 := ⟨_, rfl⟩
    have h := h x8 qx8
    refine e_iinc (pc := 399) g 4 x8 [(0, .ref 72), (1, .int v1), (2, .int v2), (3, .int v3), (4, .int x8), (5, .int t0)] dX10_flows_399 rfl (by rw [qx8]; rfl) (by decide) rfl ?_
    refine e_goto (pc := 402) g 277 dX10_flows_402 (by decide) ?_
    refine e_sub [(0, .ref 72), (1, .int v1), (2, .int v2), (3, .int v3), (4, .int x8)] [0, 1, 2, 3, 4] rfl ?_
    exact h
  · have h := h.2 c5
    refine e_aload_n (pc := 362) g 0 dX10_flows_362 rfl ?_
    refine e_getR (pc := 363) g 79 fl_X10_28 sh_72 rfl dX10_flows_363 ?_
    refine e_aload_n (pc := 366) g 0 dX10_flows_366 rfl ?_
    refine e_getR (pc := 367) g 84 fl_X10_43 sh_72 rfl dX10_flows_367 ?_
    refine e_iload (pc := 370) g 4 dX10_flows_370 rfl ?_
    refine e_iald (pc := 372) g sh_84 o1 dX10_flows_372 ?_
    refine e_dup2 (pc := 373) g dX10_flows_373 rfl rfl ?_
    obtain ⟨o9, h⟩ := h
    refine e_iald (pc := 374) g sh_79 o9 dX10_flows_374 ?_
    refine e_iload (pc := 375) g 5 dX10_flows_375 rfl ?_
    refine e_iadd (pc := 377) g dX10_flows_377 ?_
    refine e_iast (pc := 378) g sh_79 o9 dX10_flows_378 ?_
    obtain ⟨M10, qM10⟩ : ∃ y : MM, y = ui M4 79 (M4.1 84 v4.toNatClampNeg).toNatClampNeg ((M4.1 79 (M4.1 84 v4.toNatClampNeg).toNatClampNeg) + t0) := ⟨_, rfl⟩
    have h := h M10 qM10
    refine e_to (M' := M10) rfl rfl (by rw [qM10]) ?_
    refine e_goto (pc := 379) g 399 dX10_flows_379 (by decide) ?_
    obtain ⟨x11, qx11⟩ : ∃ y : Int32, y = v4 + 1 := ⟨_, rfl⟩
    have h := h x11 qx11
    refine e_iinc (pc := 399) g 4 x11 [(0, .ref 72), (1, .int v1), (2, .int v2), (3, .int v3), (4, .int x11), (5, .int t0)] dX10_flows_399 rfl (by rw [qx11]; rfl) (by decide) rfl ?_
    refine e_goto (pc := 402) g 277 dX10_flows_402 (by decide) ?_
    refine e_sub [(0, .ref 72), (1, .int v1), (2, .int v2), (3, .int v3), (4, .int x11)] [0, 1, 2, 3, 4] rfl ?_
    exact h
set_option maxHeartbeats 4000000 in
set_option maxRecDepth 100000 in
theorem b_X10_flows_235 {G : GC} {n : Nat} {r : Option Value} {M' : MM} (g : Good G mX10_flows n) (gr : GoodR G r M') (hn : 2 ≤ n)  (v1 : Int32) (v2 : Int32) (v3 : Int32) (v4 : Int32) (v5 : Int32) (v6 : Int32) (v7 : Int32) (v8 : Int32) (v9 : Int32)  (M : MM) (h : (vp_in v4 8) ∧ (∀ M2 : MM, M2 = ui M 96 v4.toNatClampNeg v9 → (vp_in v5 6) ∧ (∀ M4 : MM, M4 = ui M2 75 v5.toNatClampNeg ((M2.1 75 v5.toNatClampNeg) - v9) → (vp_in v6 6) ∧ (∀ M6 : MM, M6 = ui M4 75 v6.toNatClampNeg ((M4.1 75 v6.toNatClampNeg) + v9) → (∀ x7 : Int32, x7 = v4 + 1 → At_X10_flows_59 G v1 v2 v3 x7 M6))))) : At_X10_flows_235 G v1 v2 v3 v4 v5 v6 v7 v8 v9 M := by
  unfold At_X10_flows_235
  refine e_aload_n (pc := 235) g 0 dX10_flows_235 rfl ?_
  refine e_getR (pc := 236) g 96 fl_X10_80 sh_72 rfl dX10_flows_236 ?_
  refine e_iload (pc := 239) g 4 dX10_flows_239 rfl ?_
  refine e_iload (pc := 241) g 9 dX10_flows_241 rfl ?_
  obtain ⟨o1, h⟩ := h
  refine e_iast (pc := 243) g sh_96 o1 dX10_flows_243 ?_
  obtain ⟨M2, qM2⟩ : ∃ y : MM, y = ui M 96 v4.toNatClampNeg v9 := ⟨_, rfl⟩
  have h := h M2 qM2
  refine e_to (M' := M2) rfl rfl (by rw [qM2]) ?_
  refine e_aload_n (pc := 244) g 0 dX10_flows_244 rfl ?_
  refine e_getR (pc := 245) g 75 fl_X10_16 sh_72 rfl dX10_flows_245 ?_
  refine e_iload (pc := 248) g 5 dX10_flows_248 rfl ?_
  refine e_dup2 (pc := 250) g dX10_flows_250 rfl rfl ?_
  obtain ⟨o3, h⟩ := h
  refine e_iald (pc := 251) g sh_75 o3 dX10_flows_251 ?_
  refine e_iload (pc := 252) g 9 dX10_flows_252 rfl ?_
  refine e_isub (pc := 254) g dX10_flows_254 ?_
  refine e_iast (pc := 255) g sh_75 o3 dX10_flows_255 ?_
  obtain ⟨M4, qM4⟩ : ∃ y : MM, y = ui M2 75 v5.toNatClampNeg ((M2.1 75 v5.toNatClampNeg) - v9) := ⟨_, rfl⟩
  have h := h M4 qM4
  refine e_to (M' := M4) rfl rfl (by rw [qM4]) ?_
  refine e_aload_n (pc := 256) g 0 dX10_flows_256 rfl ?_
  refine e_getR (pc := 257) g 75 fl_X10_16 sh_72 rfl dX10_flows_257 ?_
  refine e_iload (pc := 260) g 6 dX10_flows_260 rfl ?_
  refine e_dup2 (pc := 262) g dX10_flows_262 rfl rfl ?_
  obtain ⟨o5, h⟩ := h
  refine e_iald (pc := 263) g sh_75 o5 dX10_flows_263 ?_
  refine e_iload (pc := 264) g 9 dX10_flows_264 rfl ?_
  refine e_iadd (pc := 266) g dX10_flows_266 ?_
  refine e_iast (pc := 267) g sh_75 o5 dX10_flows_267 ?_
  obtain ⟨M6, qM6⟩ : ∃ y : MM, y = ui M4 75 v6.toNatClampNeg ((M4.1 75 v6.toNatClampNeg) + v9) := ⟨_, rfl⟩
  have h := h M6 qM6
  refine e_to (M' := M6) rfl rfl (by rw [qM6]) ?_
  obtain ⟨x7, qx7⟩ : ∃ y : Int32, y = v4 + 1 := ⟨_, rfl⟩
  have h := h x7 qx7
  refine e_iinc (pc := 268) g 4 x7 [(0, .ref 72), (1, .int v1), (2, .int v2), (3, .int v3), (4, .int x7), (5, .int v5), (6, .int v6), (7, .int v7), (8, .int v8), (9, .int v9)] dX10_flows_268 rfl (by rw [qx7]; rfl) (by decide) rfl ?_
  refine e_goto (pc := 271) g 59 dX10_flows_271 (by decide) ?_
  refine e_sub [(0, .ref 72), (1, .int v1), (2, .int v2), (3, .int v3), (4, .int x7)] [0, 1, 2, 3, 4] rfl ?_
  exact h
set_option maxHeartbeats 4000000 in
set_option maxRecDepth 100000 in
theorem b_X10_flows_507 {G : GC} {n : Nat} {r : Option Value} {M' : MM} (g : Good G mX10_flows n) (gr : GoodR G r M') (hn : 2 ≤ n)  (v1 : Int32) (v2 : Int32) (v3 : Int32) (v4 : Int32) (v5 : Int32) (v6 : Int64) (t0 : Int32)  (M : MM) (h : (vp_in v4 4) ∧ (∀ M2 : MM, M2 = ui M 98 v4.toNatClampNeg t0 → (vp_in (M2.1 91 v4.toNatClampNeg) 6) ∧ (∀ M4 : MM, M4 = ui M2 75 (M2.1 91 v4.toNatClampNeg).toNatClampNeg ((M2.1 75 (M2.1 91 v4.toNatClampNeg).toNatClampNeg) - t0) → (vp_in (M4.1 91 v4.toNatClampNeg) 6) ∧ (∀ M6 : MM, M6 = ui M4 79 (M4.1 91 v4.toNatClampNeg).toNatClampNeg ((M4.1 79 (M4.1 91 v4.toNatClampNeg).toNatClampNeg) + t0) → (∀ x7 : Int32, x7 = v4 + 1 → At_X10_flows_408 G v1 v2 v3 x7 M6))))) : At_X10_flows_507 G v1 v2 v3 v4 v5 v6 t0 M := by
  unfold At_X10_flows_507
  refine e_istore (pc := 507) g [(0, .ref 72), (1, .int v1), (2, .int v2), (3, .int v3), (4, .int v4), (5, .int v5), (6, .long v6), (8, .int t0)] dX10_flows_507 (by decide) rfl ?_
  refine e_aload_n (pc := 509) g 0 dX10_flows_509 rfl ?_
  refine e_getR (pc := 510) g 98 fl_X10_86 sh_72 rfl dX10_flows_510 ?_
  refine e_iload (pc := 513) g 4 dX10_flows_513 rfl ?_
  refine e_iload (pc := 515) g 7 dX10_flows_515 rfl ?_
  obtain ⟨o1, h⟩ := h
  refine e_iast (pc := 517) g sh_98 o1 dX10_flows_517 ?_
  obtain ⟨M2, qM2⟩ : ∃ y : MM, y = ui M 98 v4.toNatClampNeg t0 := ⟨_, rfl⟩
  have h := h M2 qM2
  refine e_to (M' := M2) rfl rfl (by rw [qM2]) ?_
  refine e_aload_n (pc := 518) g 0 dX10_flows_518 rfl ?_
  refine e_getR (pc := 519) g 75 fl_X10_16 sh_72 rfl dX10_flows_519 ?_
  refine e_aload_n (pc := 522) g 0 dX10_flows_522 rfl ?_
  refine e_getR (pc := 523) g 91 fl_X10_65 sh_72 rfl dX10_flows_523 ?_
  refine e_iload (pc := 526) g 4 dX10_flows_526 rfl ?_
  refine e_iald (pc := 528) g sh_91 o1 dX10_flows_528 ?_
  refine e_dup2 (pc := 529) g dX10_flows_529 rfl rfl ?_
  obtain ⟨o3, h⟩ := h
  refine e_iald (pc := 530) g sh_75 o3 dX10_flows_530 ?_
  refine e_iload (pc := 531) g 7 dX10_flows_531 rfl ?_
  refine e_isub (pc := 533) g dX10_flows_533 ?_
  refine e_iast (pc := 534) g sh_75 o3 dX10_flows_534 ?_
  obtain ⟨M4, qM4⟩ : ∃ y : MM, y = ui M2 75 (M2.1 91 v4.toNatClampNeg).toNatClampNeg ((M2.1 75 (M2.1 91 v4.toNatClampNeg).toNatClampNeg) - t0) := ⟨_, rfl⟩
  have h := h M4 qM4
  refine e_to (M' := M4) rfl rfl (by rw [qM4]) ?_
  refine e_aload_n (pc := 535) g 0 dX10_flows_535 rfl ?_
  refine e_getR (pc := 536) g 79 fl_X10_28 sh_72 rfl dX10_flows_536 ?_
  refine e_aload_n (pc := 539) g 0 dX10_flows_539 rfl ?_
  refine e_getR (pc := 540) g 91 fl_X10_65 sh_72 rfl dX10_flows_540 ?_
  refine e_iload (pc := 543) g 4 dX10_flows_543 rfl ?_
  refine e_iald (pc := 545) g sh_91 o1 dX10_flows_545 ?_
  refine e_dup2 (pc := 546) g dX10_flows_546 rfl rfl ?_
  obtain ⟨o5, h⟩ := h
  refine e_iald (pc := 547) g sh_79 o5 dX10_flows_547 ?_
  refine e_iload (pc := 548) g 7 dX10_flows_548 rfl ?_
  refine e_iadd (pc := 550) g dX10_flows_550 ?_
  refine e_iast (pc := 551) g sh_79 o5 dX10_flows_551 ?_
  obtain ⟨M6, qM6⟩ : ∃ y : MM, y = ui M4 79 (M4.1 91 v4.toNatClampNeg).toNatClampNeg ((M4.1 79 (M4.1 91 v4.toNatClampNeg).toNatClampNeg) + t0) := ⟨_, rfl⟩
  have h := h M6 qM6
  refine e_to (M' := M6) rfl rfl (by rw [qM6]) ?_
  obtain ⟨x7, qx7⟩ : ∃ y : Int32, y = v4 + 1 := ⟨_, rfl⟩
  have h := h x7 qx7
  refine e_iinc (pc := 552) g 4 x7 [(0, .ref 72), (1, .int v1), (2, .int v2), (3, .int v3), (4, .int x7), (5, .int v5), (6, .long v6), (8, .int t0)] dX10_flows_552 rfl (by rw [qx7]; rfl) (by decide) rfl ?_
  refine e_goto (pc := 555) g 408 dX10_flows_555 (by decide) ?_
  refine e_sub [(0, .ref 72), (1, .int v1), (2, .int v2), (3, .int v3), (4, .int x7)] [0, 1, 2, 3, 4] rfl ?_
  exact h
/-- at the cut 4 of X10_alarms -/
def At_X10_alarms_4 (G : GC)  (v1 : Int32) (v2 : Int32)  (M : MM) : Prop := Ev G 4 [(0, .ref 72), (1, .int v1), (2, .int v2)] [] M
set_option maxHeartbeats 4000000 in
set_option maxRecDepth 100000 in
theorem b_X10_alarms_0 {G : GC} {n : Nat} {r : Option Value} {M' : MM} (g : Good G mX10_alarms n) (gr : GoodR G r M') (hn : 3 ≤ n)    (M : MM) (h : At_X10_alarms_4 G 0 0 M) : Ev G 0 [(0, .ref 72)] [] M := by
  refine e_iconst (pc := 0) g 0 dX10_alarms_0 kc_0 ?_
  refine e_istore_n (pc := 1) g [(0, .ref 72), (1, .int 0)] dX10_alarms_1 (by decide) rfl ?_
  refine e_iconst (pc := 2) g 0 dX10_alarms_2 kc_0 ?_
  refine e_istore_n (pc := 3) g [(0, .ref 72), (1, .int 0), (2, .int 0)] dX10_alarms_3 (by decide) rfl ?_
  exact h
set_option maxHeartbeats 4000000 in
set_option maxRecDepth 100000 in
theorem b_X10_alarms_4 {G : GC} {n : Nat} {r : Option Value} {M' : MM} (g : Good G mX10_alarms n) (gr : GoodR G r M') (hn : 3 ≤ n)  (v1 : Int32) (v2 : Int32)  (M : MM) (h : ((((M.1 72 0) : Int32) ≤ v2 → (r = some (.int v1) ∧ M' = M)) ∧ (¬ (((M.1 72 0) : Int32) ≤ v2) → (∃ (r4 : Int32) (M2 : MM), Fn 2 mX10_breach [.ref 72, .int v2] M (some (.int r4)) M2 ∧ (∀ x6 : Int32, x6 = (v1 + (if r4 ≤ (0 : Int32) then 0 else 1)) → (∀ x7 : Int32, x7 = v2 + 1 → At_X10_alarms_4 G x6 x7 M2)))))) : At_X10_alarms_4 G v1 v2 M := by
  unfold At_X10_alarms_4
  refine e_iload_n (pc := 4) g 2 dX10_alarms_4 rfl ?_
  refine e_aload_n (pc := 5) g 0 dX10_alarms_5 rfl ?_
  refine e_getI (pc := 6) g fl_X10_113 sh_72 rfl dX10_alarms_6 ?_
  refine e_icmp_ge (pc := 9) g 34 dX10_alarms_9 (by decide) (fun c1 => ?_) (fun c1 => ?_)
  · have h := h.1 c1
    refine e_iload_n (pc := 34) g 1 dX10_alarms_34 rfl ?_
    exact e_iret (pc := 35) g gr rfl dX10_alarms_35 h
  · have h := h.2 c1
    refine e_iload_n (pc := 12) g 1 dX10_alarms_12 rfl ?_
    refine e_aload_n (pc := 13) g 0 dX10_alarms_13 rfl ?_
    refine e_iload_n (pc := 14) g 2 dX10_alarms_14 rfl ?_
    obtain ⟨r4, M2, f3, h⟩ := h
    refine e_callV (As := [.int v2]) (S := [.int v1]) (pc := 15) g ok_X10_breach ml_X10_144 sh_72 ⟨_, rfl, rfl⟩ f3 (by omega) rfl (Nat.le_of_ble_eq_true rfl) dX10_alarms_15 ?_
    refine e_to (S' := [.int r4, .int v1]) rfl rfl rfl ?_
    have hj : Ev G 26 [(0, .ref 72), (1, .int v1), (2, .int v2)] [.int (if r4 ≤ (0 : Int32) then 0 else 1), .int v1] M2 := by
      refine e_iadd (pc := 26) g dX10_alarms_26 ?_
      obtain ⟨x6, qx6⟩ : ∃ y : Int32, y = (v1 + (if r4 ≤ (0 : Int32) then 0 else 1)) := ⟨_, rfl⟩
      have h := h x6 qx6
      refine e_to (S' := [.int x6]) rfl (by rw [qx6]) rfl ?_
      refine e_istore_n (pc := 27) g [(0, .ref 72), (1, .int x6), (2, .int v2)] dX10_alarms_27 (by decide) rfl ?_
      obtain ⟨x7, qx7⟩ : ∃ y : Int32, y = v2 + 1 := ⟨_, rfl⟩
      have h := h x7 qx7
      refine e_iinc (pc := 28) g 2 x7 [(0, .ref 72), (1, .int x6), (2, .int x7)] dX10_alarms_28 rfl (by rw [qx7]; rfl) (by decide) rfl ?_
      refine e_goto (pc := 31) g 4 dX10_alarms_31 (by decide) ?_
      exact h
    refine e_if_le (pc := 18) g 25 dX10_alarms_18 (by decide) (fun c5 => ?_) (fun c5 => ?_)
    · rw [if_pos c5] at hj
      refine e_iconst (pc := 25) g 0 dX10_alarms_25 kc_0 ?_
      exact hj
    · rw [if_neg c5] at hj
      refine e_iconst (pc := 21) g 1 dX10_alarms_21 kc_1 ?_
      refine e_goto (pc := 22) g 26 dX10_alarms_22 (by decide) ?_
      exact hj
/-- at the cut 4 of X10_steps -/
def At_X10_steps_4 (G : GC)  (v1 : Int32) (v2 : Int32) (v3 : Int32)  (M : MM) : Prop := Ev G 4 [(0, .ref 72), (1, .int v1), (2, .int v2), (3, .int v3)] [] M
set_option maxHeartbeats 4000000 in
set_option maxRecDepth 100000 in
theorem b_X10_steps_0 {G : GC} {n : Nat} {r : Option Value} {M' : MM} (g : Good G mX10_steps n) (gr : GoodR G r M') (hn : 4 ≤ n) (a1 : Int32)   (M : MM) (h : At_X10_steps_4 G a1 0 0 M) : Ev G 0 [(0, .ref 72), (1, .int a1)] [] M := by
  refine e_iconst (pc := 0) g 0 dX10_steps_0 kc_0 ?_
  refine e_istore_n (pc := 1) g [(0, .ref 72), (1, .int a1), (2, .int 0)] dX10_steps_1 (by decide) rfl ?_
  refine e_iconst (pc := 2) g 0 dX10_steps_2 kc_0 ?_
  refine e_istore_n (pc := 3) g [(0, .ref 72), (1, .int a1), (2, .int 0), (3, .int 0)] dX10_steps_3 (by decide) rfl ?_
  exact h
/-- at the cut 43 of X10_steps -/
def At_X10_steps_43 (G : GC)  (v1 : Int32) (v2 : Int32) (v3 : Int32) (t1 : Int32) (t2 : Int32) (M : MM) : Prop := Ev G 43 [(0, .ref 72), (1, .int v1), (2, .int v2), (3, .int v3)] [.int t2, .int t1, .ref 89] M
set_option maxHeartbeats 4000000 in
set_option maxRecDepth 100000 in
theorem b_X10_steps_4 {G : GC} {n : Nat} {r : Option Value} {M' : MM} (g : Good G mX10_steps n) (gr : GoodR G r M') (hn : 4 ≤ n)  (v1 : Int32) (v2 : Int32) (v3 : Int32)  (M : MM) (h : ((((M.1 72 13) : Int32) ≤ v3 → (¬ 24 = (0 : Int32)) ∧ (∃ M3 : MM, Fn 2 mX10_flows [.ref 72, .int v1, .int ((M.1 72 27) - (M.1 72 27) / 24 * 24), .int v2] M none M3 ∧ (∀ M5 : MM, M5 = ui M3 72 27 ((M3.1 72 27) + 1) → (∃ (r8 : Int32) (M6 : MM), Fn 3 mX10_alarms [.ref 72] M5 (some (.int r8)) M6 ∧ (r = some (.int r8) ∧ M' = M6))))) ∧ (¬ (((M.1 72 13) : Int32) ≤ v3) → (vp_in v3 4) ∧ (((M.1 89 v3.toNatClampNeg) = (0 : Int32) → At_X10_steps_43 G v1 v2 v3 v3 0 M) ∧ (¬ ((M.1 89 v3.toNatClampNeg) = (0 : Int32)) → (∃ (r13 : Int32) (M11 : MM), Fn 1 mX10_isPaused [.ref 72, .int v3, .int (M.1 72 27)] M (some (.int r13)) M11 ∧ ((¬ r13 = (0 : Int32) → At_X10_steps_43 G v1 v2 v3 v3 0 M11) ∧ (r13 = (0 : Int32) → At_X10_steps_43 G v1 v2 v3 v3 1 M11)))))))) : At_X10_steps_4 G v1 v2 v3 M := by
  unfold At_X10_steps_4
  refine e_iload_n (pc := 4) g 3 dX10_steps_4 rfl ?_
  refine e_aload_n (pc := 5) g 0 dX10_steps_5 rfl ?_
  refine e_getI (pc := 6) g fl_X10_154 sh_72 rfl dX10_steps_6 ?_
  refine e_icmp_ge (pc := 9) g 103 dX10_steps_9 (by decide) (fun c1 => ?_) (fun c1 => ?_)
  · have h := h.1 c1
    refine e_aload_n (pc := 103) g 0 dX10_steps_103 rfl ?_
    refine e_iload_n (pc := 104) g 1 dX10_steps_104 rfl ?_
    refine e_aload_n (pc := 105) g 0 dX10_steps_105 rfl ?_
    refine e_getI (pc := 106) g fl_X10_160 sh_72 rfl dX10_steps_106 ?_
    refine e_bipush (pc := 109) g 24 dX10_steps_109 kb_24 ?_
    obtain ⟨o2, h⟩ := h
    refine e_irem (pc := 111) g dX10_steps_111 o2 ?_
    refine e_iload_n (pc := 112) g 2 dX10_steps_112 rfl ?_
    obtain ⟨M3, f4, h⟩ := h
    refine e_callV (As := [.int v1, .int ((M.1 72 27) - (M.1 72 27) / 24 * 24), .int v2]) (S := []) (pc := 113) g ok_X10_flows ml_X10_182 sh_72 ⟨_, rfl, rfl⟩ f4 (by omega) rfl (Nat.le_of_ble_eq_true rfl) dX10_steps_113 ?_
    refine e_to (S' := []) rfl rfl rfl ?_
    refine e_aload_n (pc := 116) g 0 dX10_steps_116 rfl ?_
    refine e_dup (pc := 117) g dX10_steps_117 rfl ?_
    refine e_getI (pc := 118) g fl_X10_160 sh_72 rfl dX10_steps_118 ?_
    refine e_iconst (pc := 121) g 1 dX10_steps_121 kc_1 ?_
    refine e_iadd (pc := 122) g dX10_steps_122 ?_
    refine e_putI (pc := 123) g fw_X10_160 sh_72 rfl dX10_steps_123 ?_
    obtain ⟨M5, qM5⟩ : ∃ y : MM, y = ui M3 72 27 ((M3.1 72 27) + 1) := ⟨_, rfl⟩
    have h := h M5 qM5
    refine e_to (M' := M5) rfl rfl (by rw [qM5]) ?_
    refine e_aload_n (pc := 126) g 0 dX10_steps_126 rfl ?_
    obtain ⟨r8, M6, f7, h⟩ := h
    refine e_callV (As := []) (S := []) (pc := 127) g ok_X10_alarms ml_X10_186 sh_72 ⟨_, rfl, rfl⟩ f7 (by omega) rfl (Nat.le_of_ble_eq_true rfl) dX10_steps_127 ?_
    refine e_to (S' := [.int r8]) rfl rfl rfl ?_
    exact e_iret (pc := 130) g gr rfl dX10_steps_130 h
  · have h := h.2 c1
    refine e_aload_n (pc := 12) g 0 dX10_steps_12 rfl ?_
    refine e_getR (pc := 13) g 89 fl_X10_58 sh_72 rfl dX10_steps_13 ?_
    refine e_iload_n (pc := 16) g 3 dX10_steps_16 rfl ?_
    refine e_aload_n (pc := 17) g 0 dX10_steps_17 rfl ?_
    refine e_getR (pc := 18) g 89 fl_X10_58 sh_72 rfl dX10_steps_18 ?_
    refine e_iload_n (pc := 21) g 3 dX10_steps_21 rfl ?_
    obtain ⟨o9, h⟩ := h
    refine e_zald (pc := 22) g sh_89 o9 dX10_steps_22 ?_
    refine e_if_eq (pc := 23) g 42 dX10_steps_23 (by decide) (fun c10 => ?_) (fun c10 => ?_)
    · have h := h.1 c10
      refine e_iconst (pc := 42) g 0 dX10_steps_42 kc_0 ?_
      exact h
    · have h := h.2 c10
      refine e_aload_n (pc := 26) g 0 dX10_steps_26 rfl ?_
      refine e_iload_n (pc := 27) g 3 dX10_steps_27 rfl ?_
      refine e_aload_n (pc := 28) g 0 dX10_steps_28 rfl ?_
      refine e_getI (pc := 29) g fl_X10_160 sh_72 rfl dX10_steps_29 ?_
      obtain ⟨r13, M11, f12, h⟩ := h
      refine e_callV (As := [.int v3, .int (M.1 72 27)]) (S := [.int v3, .ref 89]) (pc := 32) g ok_X10_isPaused ml_X10_163 sh_72 ⟨_, rfl, rfl⟩ f12 (by omega) rfl (Nat.le_of_ble_eq_true rfl) dX10_steps_32 ?_
      refine e_to (S' := [.int r13, .int v3, .ref 89]) rfl rfl rfl ?_
      refine e_if_ne (pc := 35) g 42 dX10_steps_35 (by decide) (fun c14 => ?_) (fun c14 => ?_)
      · have h := h.1 c14
        refine e_iconst (pc := 42) g 0 dX10_steps_42 kc_0 ?_
        exact h
      · have h := h.2 c14
        refine e_iconst (pc := 38) g 1 dX10_steps_38 kc_1 ?_
        refine e_goto (pc := 39) g 43 dX10_steps_39 (by decide) ?_
        exact h
/-- at the cut 62 of X10_steps -/
def At_X10_steps_62 (G : GC)  (v1 : Int32) (v2 : Int32) (v3 : Int32) (t0 : Int32) (M : MM) : Prop := Ev G 62 [(0, .ref 72), (1, .int v1), (2, .int v2), (3, .int v3)] [.int t0] M
set_option maxHeartbeats 4000000 in
set_option maxRecDepth 100000 in
theorem b_X10_steps_43 {G : GC} {n : Nat} {r : Option Value} {M' : MM} (g : Good G mX10_steps n) (gr : GoodR G r M') (hn : 4 ≤ n)  (v1 : Int32) (v2 : Int32) (v3 : Int32) (t1 : Int32) (t2 : Int32)  (M : MM) (h : (vp_in t1 4) ∧ (∀ M2 : MM, M2 = ui M 89 t1.toNatClampNeg (vp_nar .boolean t2) → (vp_in v3 4) ∧ (((M2.1 89 v3.toNatClampNeg) = (0 : Int32) → At_X10_steps_62 G v1 v2 v3 (v2 ||| 0) M2) ∧ (¬ ((M2.1 89 v3.toNatClampNeg) = (0 : Int32)) → At_X10_steps_62 G v1 v2 v3 (v2 ||| (1 <<< (v3 &&& 31))) M2)))) : At_X10_steps_43 G v1 v2 v3 t1 t2 M := by
  unfold At_X10_steps_43
  obtain ⟨o1, h⟩ := h
  refine e_zast (pc := 43) g sh_89 o1 dX10_steps_43 ?_
  obtain ⟨M2, qM2⟩ : ∃ y : MM, y = ui M 89 t1.toNatClampNeg (vp_nar .boolean t2) := ⟨_, rfl⟩
  have h := h M2 qM2
  refine e_to (M' := M2) rfl rfl (by rw [qM2]) ?_
  refine e_iload_n (pc := 44) g 2 dX10_steps_44 rfl ?_
  refine e_aload_n (pc := 45) g 0 dX10_steps_45 rfl ?_
  refine e_getR (pc := 46) g 89 fl_X10_58 sh_72 rfl dX10_steps_46 ?_
  refine e_iload_n (pc := 49) g 3 dX10_steps_49 rfl ?_
  obtain ⟨o3, h⟩ := h
  refine e_zald (pc := 50) g sh_89 o3 dX10_steps_50 ?_
  refine e_if_eq (pc := 51) g 60 dX10_steps_51 (by decide) (fun c4 => ?_) (fun c4 => ?_)
  · have h := h.1 c4
    refine e_iconst (pc := 60) g 0 dX10_steps_60 kc_0 ?_
    refine e_ior (pc := 61) g dX10_steps_61 ?_
    exact h
  · have h := h.2 c4
    refine e_iconst (pc := 54) g 1 dX10_steps_54 kc_1 ?_
    refine e_iload_n (pc := 55) g 3 dX10_steps_55 rfl ?_
    refine e_ishl (pc := 56) g dX10_steps_56 ?_
    refine e_goto (pc := 57) g 61 dX10_steps_57 (by decide) ?_
    refine e_ior (pc := 61) g dX10_steps_61 ?_
    exact h
/-- at the cut 93 of X10_steps -/
def At_X10_steps_93 (G : GC)  (v1 : Int32) (v2 : Int32) (v3 : Int32) (t1 : Int32) (t2 : Int32) (M : MM) : Prop := Ev G 93 [(0, .ref 72), (1, .int v1), (2, .int v2), (3, .int v3)] [.int t2, .int t1, .ref 72] M
set_option maxHeartbeats 4000000 in
set_option maxRecDepth 100000 in
theorem b_X10_steps_62 {G : GC} {n : Nat} {r : Option Value} {M' : MM} (g : Good G mX10_steps n) (gr : GoodR G r M') (hn : 4 ≤ n)  (v1 : Int32) (v2 : Int32) (v3 : Int32) (t0 : Int32)  (M : MM) (h : (vp_in v3 4) ∧ (((M.1 89 v3.toNatClampNeg) = (0 : Int32) → At_X10_steps_93 G v1 t0 v3 (M.1 72 28) 0 M) ∧ (¬ ((M.1 89 v3.toNatClampNeg) = (0 : Int32)) → (¬ 24 = (0 : Int32)) ∧ (vp_in ((M.1 72 27) - (M.1 72 27) / 24 * 24) 24) ∧ At_X10_steps_93 G v1 t0 v3 (M.1 72 28) (M.1 95 ((M.1 72 27) - (M.1 72 27) / 24 * 24).toNatClampNeg) M))) : At_X10_steps_62 G v1 v2 v3 t0 M := by
  unfold At_X10_steps_62
  refine e_istore_n (pc := 62) g [(0, .ref 72), (1, .int v1), (2, .int t0), (3, .int v3)] dX10_steps_62 (by decide) rfl ?_
  refine e_aload_n (pc := 63) g 0 dX10_steps_63 rfl ?_
  refine e_dup (pc := 64) g dX10_steps_64 rfl ?_
  refine e_getI (pc := 65) g fl_X10_179 sh_72 rfl dX10_steps_65 ?_
  refine e_aload_n (pc := 68) g 0 dX10_steps_68 rfl ?_
  refine e_getR (pc := 69) g 89 fl_X10_58 sh_72 rfl dX10_steps_69 ?_
  refine e_iload_n (pc := 72) g 3 dX10_steps_72 rfl ?_
  obtain ⟨o1, h⟩ := h
  refine e_zald (pc := 73) g sh_89 o1 dX10_steps_73 ?_
  refine e_if_eq (pc := 74) g 92 dX10_steps_74 (by decide) (fun c2 => ?_) (fun c2 => ?_)
  · have h := h.1 c2
    refine e_iconst (pc := 92) g 0 dX10_steps_92 kc_0 ?_
    exact h
  · have h := h.2 c2
    refine e_aload_n (pc := 77) g 0 dX10_steps_77 rfl ?_
    refine e_getR (pc := 78) g 95 fl_X10_77 sh_72 rfl dX10_steps_78 ?_
    refine e_aload_n (pc := 81) g 0 dX10_steps_81 rfl ?_
    refine e_getI (pc := 82) g fl_X10_160 sh_72 rfl dX10_steps_82 ?_
    refine e_bipush (pc := 85) g 24 dX10_steps_85 kb_24 ?_
    obtain ⟨o3, h⟩ := h
    refine e_irem (pc := 87) g dX10_steps_87 o3 ?_
    obtain ⟨o4, h⟩ := h
    refine e_iald (pc := 88) g sh_95 o4 dX10_steps_88 ?_
    refine e_goto (pc := 89) g 93 dX10_steps_89 (by decide) ?_
    exact h
set_option maxHeartbeats 4000000 in
set_option maxRecDepth 100000 in
theorem b_X10_steps_93 {G : GC} {n : Nat} {r : Option Value} {M' : MM} (g : Good G mX10_steps n) (gr : GoodR G r M') (hn : 4 ≤ n)  (v1 : Int32) (v2 : Int32) (v3 : Int32) (t1 : Int32) (t2 : Int32)  (M : MM) (h : (∀ M1 : MM, M1 = ui M 72 28 (t1 + t2) → (∀ x2 : Int32, x2 = v3 + 1 → At_X10_steps_4 G v1 v2 x2 M1))) : At_X10_steps_93 G v1 v2 v3 t1 t2 M := by
  unfold At_X10_steps_93
  refine e_iadd (pc := 93) g dX10_steps_93 ?_
  refine e_putI (pc := 94) g fw_X10_179 sh_72 rfl dX10_steps_94 ?_
  obtain ⟨M1, qM1⟩ : ∃ y : MM, y = ui M 72 28 (t1 + t2) := ⟨_, rfl⟩
  have h := h M1 qM1
  refine e_to (M' := M1) rfl rfl (by rw [qM1]) ?_
  obtain ⟨x2, qx2⟩ : ∃ y : Int32, y = v3 + 1 := ⟨_, rfl⟩
  have h := h x2 qx2
  refine e_iinc (pc := 97) g 3 x2 [(0, .ref 72), (1, .int v1), (2, .int v2), (3, .int x2)] dX10_steps_97 rfl (by rw [qx2]; rfl) (by decide) rfl ?_
  refine e_goto (pc := 100) g 4 dX10_steps_100 (by decide) ?_
  exact h
set_option maxHeartbeats 4000000 in
set_option maxRecDepth 100000 in
theorem b_X10_step_0 {G : GC} {n : Nat} {r : Option Value} {M' : MM} (g : Good G mX10_step n) (gr : GoodR G r M') (hn : 5 ≤ n) (a1 : Int32)   (M : MM) (h : (∃ (r3 : Int32) (M1 : MM), Fn 1 mX10_in [.long (a1.toInt64), .long 0, .long 100] M (some (.int r3)) M1 ∧ ((r3 = (0 : Int32) → (r = some (.int (-1)) ∧ M' = M1)) ∧ (¬ (r3 = (0 : Int32)) → (∃ (r7 : Int32) (M5 : MM), Fn 4 mX10_steps [.ref 72, .int a1] M1 (some (.int r7)) M5 ∧ (r = some (.int r7) ∧ M' = M5)))))) : Ev G 0 [(0, .ref 72), (1, .int a1)] [] M := by
  refine e_iload_n (pc := 0) g 1 dX10_step_0 rfl ?_
  refine e_i2l (pc := 1) g dX10_step_1 ?_
  refine e_lconst (pc := 2) g 0 dX10_step_2 kl_0 ?_
  refine e_ldc2 (pc := 3) g 100 kl_X10_173 dX10_step_3 ?_
  obtain ⟨r3, M1, f2, h⟩ := h
  refine e_callS (As := [.long (a1.toInt64), .long 0, .long 100]) (S := []) (pc := 6) g ok_X10_in ml_X10_117 f2 (by omega) rfl (Nat.le_of_ble_eq_true rfl) dX10_step_6 ?_
  refine e_to (S' := [.int r3]) rfl rfl rfl ?_
  refine e_if_eq (pc := 9) g 20 dX10_step_9 (by decide) (fun c4 => ?_) (fun c4 => ?_)
  · have h := h.1 c4
    refine e_iconst (pc := 20) g (-1) dX10_step_20 kc_m1 ?_
    exact e_iret (pc := 21) g gr rfl dX10_step_21 h
  · have h := h.2 c4
    refine e_aload_n (pc := 12) g 0 dX10_step_12 rfl ?_
    refine e_iload_n (pc := 13) g 1 dX10_step_13 rfl ?_
    obtain ⟨r7, M5, f6, h⟩ := h
    refine e_callV (As := [.int a1]) (S := []) (pc := 14) g ok_X10_steps ml_X10_190 sh_72 ⟨_, rfl, rfl⟩ f6 (by omega) rfl (Nat.le_of_ble_eq_true rfl) dX10_step_14 ?_
    refine e_to (S' := [.int r7]) rfl rfl rfl ?_
    refine e_goto (pc := 17) g 21 dX10_step_17 (by decide) ?_
    exact e_iret (pc := 21) g gr rfl dX10_step_21 h
set_option maxHeartbeats 4000000 in
set_option maxRecDepth 100000 in
theorem b_X10_passed_0 {G : GC} {n : Nat} {r : Option Value} {M' : MM} (g : Good G mX10_passed n) (gr : GoodR G r M') (hn : 2 ≤ n) (a1 : Int32) (a2 : Int32)   (M : MM) (h : ((¬ a1 = (0 : Int32) → ((¬ a1 = (1 : Int32) → ((¬ a1 = (2 : Int32) → (r = some (.int (-1)) ∧ M' = M)) ∧ (a1 = (2 : Int32) → (∃ (r6 : Int32) (M4 : MM), Fn 1 mX10_in [.long (a2.toInt64), .long 0, .long (((M.1 72 21) - 1).toInt64)] M (some (.int r6)) M4 ∧ ((r6 = (0 : Int32) → (r = some (.int (-1)) ∧ M' = M4)) ∧ (¬ (r6 = (0 : Int32)) → (vp_in a2 4) ∧ (r = some (.int (M4.1 98 a2.toNatClampNeg)) ∧ M' = M4))))))) ∧ (a1 = (1 : Int32) → (∃ (r11 : Int32) (M9 : MM), Fn 1 mX10_in [.long (a2.toInt64), .long 0, .long (((M.1 72 13) - 1).toInt64)] M (some (.int r11)) M9 ∧ ((r11 = (0 : Int32) → ((¬ a1 = (2 : Int32) → (r = some (.int (-1)) ∧ M' = M9)) ∧ (a1 = (2 : Int32) → (∃ (r16 : Int32) (M14 : MM), Fn 1 mX10_in [.long (a2.toInt64), .long 0, .long (((M9.1 72 21) - 1).toInt64)] M9 (some (.int r16)) M14 ∧ ((r16 = (0 : Int32) → (r = some (.int (-1)) ∧ M' = M14)) ∧ (¬ (r16 = (0 : Int32)) → (vp_in a2 4) ∧ (r = some (.int (M14.1 98 a2.toNatClampNeg)) ∧ M' = M14))))))) ∧ (¬ (r11 = (0 : Int32)) → (vp_in a2 4) ∧ (r = some (.int (M9.1 97 a2.toNatClampNeg)) ∧ M' = M9))))))) ∧ (a1 = (0 : Int32) → (∃ (r22 : Int32) (M20 : MM), Fn 1 mX10_in [.long (a2.toInt64), .long 0, .long (((M.1 72 8) - 1).toInt64)] M (some (.int r22)) M20 ∧ ((r22 = (0 : Int32) → ((¬ a1 = (1 : Int32) → ((¬ a1 = (2 : Int32) → (r = some (.int (-1)) ∧ M' = M20)) ∧ (a1 = (2 : Int32) → (∃ (r28 : Int32) (M26 : MM), Fn 1 mX10_in [.long (a2.toInt64), .long 0, .long (((M20.1 72 21) - 1).toInt64)] M20 (some (.int r28)) M26 ∧ ((r28 = (0 : Int32) → (r = some (.int (-1)) ∧ M' = M26)) ∧ (¬ (r28 = (0 : Int32)) → (vp_in a2 4) ∧ (r = some (.int (M26.1 98 a2.toNatClampNeg)) ∧ M' = M26))))))) ∧ (a1 = (1 : Int32) → (∃ (r33 : Int32) (M31 : MM), Fn 1 mX10_in [.long (a2.toInt64), .long 0, .long (((M20.1 72 13) - 1).toInt64)] M20 (some (.int r33)) M31 ∧ ((r33 = (0 : Int32) → ((¬ a1 = (2 : Int32) → (r = some (.int (-1)) ∧ M' = M31)) ∧ (a1 = (2 : Int32) → (∃ (r38 : Int32) (M36 : MM), Fn 1 mX10_in [.long (a2.toInt64), .long 0, .long (((M31.1 72 21) - 1).toInt64)] M31 (some (.int r38)) M36 ∧ ((r38 = (0 : Int32) → (r = some (.int (-1)) ∧ M' = M36)) ∧ (¬ (r38 = (0 : Int32)) → (vp_in a2 4) ∧ (r = some (.int (M36.1 98 a2.toNatClampNeg)) ∧ M' = M36))))))) ∧ (¬ (r33 = (0 : Int32)) → (vp_in a2 4) ∧ (r = some (.int (M31.1 97 a2.toNatClampNeg)) ∧ M' = M31))))))) ∧ (¬ (r22 = (0 : Int32)) → (vp_in a2 8) ∧ (r = some (.int (M20.1 96 a2.toNatClampNeg)) ∧ M' = M20))))))) : Ev G 0 [(0, .ref 72), (1, .int a1), (2, .int a2)] [] M := by
  refine e_iload_n (pc := 0) g 1 dX10_passed_0 rfl ?_
  refine e_if_ne (pc := 1) g 27 dX10_passed_1 (by decide) (fun c1 => ?_) (fun c1 => ?_)
  · have h := h.1 c1
    refine e_iload_n (pc := 27) g 1 dX10_passed_27 rfl ?_
    refine e_iconst (pc := 28) g 1 dX10_passed_28 kc_1 ?_
    refine e_icmp_ne (pc := 29) g 55 dX10_passed_29 (by decide) (fun c2 => ?_) (fun c2 => ?_)
    · have h := h.1 c2
      refine e_iload_n (pc := 55) g 1 dX10_passed_55 rfl ?_
      refine e_iconst (pc := 56) g 2 dX10_passed_56 kc_2 ?_
      refine e_icmp_ne (pc := 57) g 85 dX10_passed_57 (by decide) (fun c3 => ?_) (fun c3 => ?_)
      · have h := h.1 c3
        refine e_iconst (pc := 85) g (-1) dX10_passed_85 kc_m1 ?_
        exact e_iret (pc := 86) g gr rfl dX10_passed_86 h
      · have h := h.2 c3
        refine e_iload_n (pc := 60) g 2 dX10_passed_60 rfl ?_
        refine e_i2l (pc := 61) g dX10_passed_61 ?_
        refine e_lconst (pc := 62) g 0 dX10_passed_62 kl_0 ?_
        refine e_aload_n (pc := 63) g 0 dX10_passed_63 rfl ?_
        refine e_getI (pc := 64) g fl_X10_157 sh_72 rfl dX10_passed_64 ?_
        refine e_iconst (pc := 67) g 1 dX10_passed_67 kc_1 ?_
        refine e_isub (pc := 68) g dX10_passed_68 ?_
        refine e_i2l (pc := 69) g dX10_passed_69 ?_
        obtain ⟨r6, M4, f5, h⟩ := h
        refine e_callS (As := [.long (a2.toInt64), .long 0, .long (((M.1 72 21) - 1).toInt64)]) (S := []) (pc := 70) g ok_X10_in ml_X10_117 f5 (by omega) rfl (Nat.le_of_ble_eq_true rfl) dX10_passed_70 ?_
        refine e_to (S' := [.int r6]) rfl rfl rfl ?_
        refine e_if_eq (pc := 73) g 85 dX10_passed_73 (by decide) (fun c7 => ?_) (fun c7 => ?_)
        · have h := h.1 c7
          refine e_iconst (pc := 85) g (-1) dX10_passed_85 kc_m1 ?_
          exact e_iret (pc := 86) g gr rfl dX10_passed_86 h
        · have h := h.2 c7
          refine e_aload_n (pc := 76) g 0 dX10_passed_76 rfl ?_
          refine e_getR (pc := 77) g 98 fl_X10_86 sh_72 rfl dX10_passed_77 ?_
          refine e_iload_n (pc := 80) g 2 dX10_passed_80 rfl ?_
          obtain ⟨o8, h⟩ := h
          refine e_iald (pc := 81) g sh_98 o8 dX10_passed_81 ?_
          refine e_goto (pc := 82) g 86 dX10_passed_82 (by decide) ?_
          exact e_iret (pc := 86) g gr rfl dX10_passed_86 h
    · have h := h.2 c2
      refine e_iload_n (pc := 32) g 2 dX10_passed_32 rfl ?_
      refine e_i2l (pc := 33) g dX10_passed_33 ?_
      refine e_lconst (pc := 34) g 0 dX10_passed_34 kl_0 ?_
      refine e_aload_n (pc := 35) g 0 dX10_passed_35 rfl ?_
      refine e_getI (pc := 36) g fl_X10_154 sh_72 rfl dX10_passed_36 ?_
      refine e_iconst (pc := 39) g 1 dX10_passed_39 kc_1 ?_
      refine e_isub (pc := 40) g dX10_passed_40 ?_
      refine e_i2l (pc := 41) g dX10_passed_41 ?_
      obtain ⟨r11, M9, f10, h⟩ := h
      refine e_callS (As := [.long (a2.toInt64), .long 0, .long (((M.1 72 13) - 1).toInt64)]) (S := []) (pc := 42) g ok_X10_in ml_X10_117 f10 (by omega) rfl (Nat.le_of_ble_eq_true rfl) dX10_passed_42 ?_
      refine e_to (S' := [.int r11]) rfl rfl rfl ?_
      refine e_if_eq (pc := 45) g 55 dX10_passed_45 (by decide) (fun c12 => ?_) (fun c12 => ?_)
      · have h := h.1 c12
        refine e_iload_n (pc := 55) g 1 dX10_passed_55 rfl ?_
        refine e_iconst (pc := 56) g 2 dX10_passed_56 kc_2 ?_
        refine e_icmp_ne (pc := 57) g 85 dX10_passed_57 (by decide) (fun c13 => ?_) (fun c13 => ?_)
        · have h := h.1 c13
          refine e_iconst (pc := 85) g (-1) dX10_passed_85 kc_m1 ?_
          exact e_iret (pc := 86) g gr rfl dX10_passed_86 h
        · have h := h.2 c13
          refine e_iload_n (pc := 60) g 2 dX10_passed_60 rfl ?_
          refine e_i2l (pc := 61) g dX10_passed_61 ?_
          refine e_lconst (pc := 62) g 0 dX10_passed_62 kl_0 ?_
          refine e_aload_n (pc := 63) g 0 dX10_passed_63 rfl ?_
          refine e_getI (pc := 64) g fl_X10_157 sh_72 rfl dX10_passed_64 ?_
          refine e_iconst (pc := 67) g 1 dX10_passed_67 kc_1 ?_
          refine e_isub (pc := 68) g dX10_passed_68 ?_
          refine e_i2l (pc := 69) g dX10_passed_69 ?_
          obtain ⟨r16, M14, f15, h⟩ := h
          refine e_callS (As := [.long (a2.toInt64), .long 0, .long (((M9.1 72 21) - 1).toInt64)]) (S := []) (pc := 70) g ok_X10_in ml_X10_117 f15 (by omega) rfl (Nat.le_of_ble_eq_true rfl) dX10_passed_70 ?_
          refine e_to (S' := [.int r16]) rfl rfl rfl ?_
          refine e_if_eq (pc := 73) g 85 dX10_passed_73 (by decide) (fun c17 => ?_) (fun c17 => ?_)
          · have h := h.1 c17
            refine e_iconst (pc := 85) g (-1) dX10_passed_85 kc_m1 ?_
            exact e_iret (pc := 86) g gr rfl dX10_passed_86 h
          · have h := h.2 c17
            refine e_aload_n (pc := 76) g 0 dX10_passed_76 rfl ?_
            refine e_getR (pc := 77) g 98 fl_X10_86 sh_72 rfl dX10_passed_77 ?_
            refine e_iload_n (pc := 80) g 2 dX10_passed_80 rfl ?_
            obtain ⟨o18, h⟩ := h
            refine e_iald (pc := 81) g sh_98 o18 dX10_passed_81 ?_
            refine e_goto (pc := 82) g 86 dX10_passed_82 (by decide) ?_
            exact e_iret (pc := 86) g gr rfl dX10_passed_86 h
      · have h := h.2 c12
        refine e_aload_n (pc := 48) g 0 dX10_passed_48 rfl ?_
        refine e_getR (pc := 49) g 97 fl_X10_83 sh_72 rfl dX10_passed_49 ?_
        refine e_iload_n (pc := 52) g 2 dX10_passed_52 rfl ?_
        obtain ⟨o19, h⟩ := h
        refine e_iald (pc := 53) g sh_97 o19 dX10_passed_53 ?_
        exact e_iret (pc := 54) g gr rfl dX10_passed_54 h
  · have h := h.2 c1
    refine e_iload_n (pc := 4) g 2 dX10_passed_4 rfl ?_
    refine e_i2l (pc := 5) g dX10_passed_5 ?_
    refine e_lconst (pc := 6) g 0 dX10_passed_6 kl_0 ?_
    refine e_aload_n (pc := 7) g 0 dX10_passed_7 rfl ?_
    refine e_getI (pc := 8) g fl_X10_147 sh_72 rfl dX10_passed_8 ?_
    refine e_iconst (pc := 11) g 1 dX10_passed_11 kc_1 ?_
    refine e_isub (pc := 12) g dX10_passed_12 ?_
    refine e_i2l (pc := 13) g dX10_passed_13 ?_
    obtain ⟨r22, M20, f21, h⟩ := h
    refine e_callS (As := [.long (a2.toInt64), .long 0, .long (((M.1 72 8) - 1).toInt64)]) (S := []) (pc := 14) g ok_X10_in ml_X10_117 f21 (by omega) rfl (Nat.le_of_ble_eq_true rfl) dX10_passed_14 ?_
    refine e_to (S' := [.int r22]) rfl rfl rfl ?_
    refine e_if_eq (pc := 17) g 27 dX10_passed_17 (by decide) (fun c23 => ?_) (fun c23 => ?_)
    · have h := h.1 c23
      refine e_iload_n (pc := 27) g 1 dX10_passed_27 rfl ?_
      refine e_iconst (pc := 28) g 1 dX10_passed_28 kc_1 ?_
      refine e_icmp_ne (pc := 29) g 55 dX10_passed_29 (by decide) (fun c24 => ?_) (fun c24 => ?_)
      · have h := h.1 c24
        refine e_iload_n (pc := 55) g 1 dX10_passed_55 rfl ?_
        refine e_iconst (pc := 56) g 2 dX10_passed_56 kc_2 ?_
        refine e_icmp_ne (pc := 57) g 85 dX10_passed_57 (by decide) (fun c25 => ?_) (fun c25 => ?_)
        · have h := h.1 c25
          refine e_iconst (pc := 85) g (-1) dX10_passed_85 kc_m1 ?_
          exact e_iret (pc := 86) g gr rfl dX10_passed_86 h
        · have h := h.2 c25
          refine e_iload_n (pc := 60) g 2 dX10_passed_60 rfl ?_
          refine e_i2l (pc := 61) g dX10_passed_61 ?_
          refine e_lconst (pc := 62) g 0 dX10_passed_62 kl_0 ?_
          refine e_aload_n (pc := 63) g 0 dX10_passed_63 rfl ?_
          refine e_getI (pc := 64) g fl_X10_157 sh_72 rfl dX10_passed_64 ?_
          refine e_iconst (pc := 67) g 1 dX10_passed_67 kc_1 ?_
          refine e_isub (pc := 68) g dX10_passed_68 ?_
          refine e_i2l (pc := 69) g dX10_passed_69 ?_
          obtain ⟨r28, M26, f27, h⟩ := h
          refine e_callS (As := [.long (a2.toInt64), .long 0, .long (((M20.1 72 21) - 1).toInt64)]) (S := []) (pc := 70) g ok_X10_in ml_X10_117 f27 (by omega) rfl (Nat.le_of_ble_eq_true rfl) dX10_passed_70 ?_
          refine e_to (S' := [.int r28]) rfl rfl rfl ?_
          refine e_if_eq (pc := 73) g 85 dX10_passed_73 (by decide) (fun c29 => ?_) (fun c29 => ?_)
          · have h := h.1 c29
            refine e_iconst (pc := 85) g (-1) dX10_passed_85 kc_m1 ?_
            exact e_iret (pc := 86) g gr rfl dX10_passed_86 h
          · have h := h.2 c29
            refine e_aload_n (pc := 76) g 0 dX10_passed_76 rfl ?_
            refine e_getR (pc := 77) g 98 fl_X10_86 sh_72 rfl dX10_passed_77 ?_
            refine e_iload_n (pc := 80) g 2 dX10_passed_80 rfl ?_
            obtain ⟨o30, h⟩ := h
            refine e_iald (pc := 81) g sh_98 o30 dX10_passed_81 ?_
            refine e_goto (pc := 82) g 86 dX10_passed_82 (by decide) ?_
            exact e_iret (pc := 86) g gr rfl dX10_passed_86 h
      · have h := h.2 c24
        refine e_iload_n (pc := 32) g 2 dX10_passed_32 rfl ?_
        refine e_i2l (pc := 33) g dX10_passed_33 ?_
        refine e_lconst (pc := 34) g 0 dX10_passed_34 kl_0 ?_
        refine e_aload_n (pc := 35) g 0 dX10_passed_35 rfl ?_
        refine e_getI (pc := 36) g fl_X10_154 sh_72 rfl dX10_passed_36 ?_
        refine e_iconst (pc := 39) g 1 dX10_passed_39 kc_1 ?_
        refine e_isub (pc := 40) g dX10_passed_40 ?_
        refine e_i2l (pc := 41) g dX10_passed_41 ?_
        obtain ⟨r33, M31, f32, h⟩ := h
        refine e_callS (As := [.long (a2.toInt64), .long 0, .long (((M20.1 72 13) - 1).toInt64)]) (S := []) (pc := 42) g ok_X10_in ml_X10_117 f32 (by omega) rfl (Nat.le_of_ble_eq_true rfl) dX10_passed_42 ?_
        refine e_to (S' := [.int r33]) rfl rfl rfl ?_
        refine e_if_eq (pc := 45) g 55 dX10_passed_45 (by decide) (fun c34 => ?_) (fun c34 => ?_)
        · have h := h.1 c34
          refine e_iload_n (pc := 55) g 1 dX10_passed_55 rfl ?_
          refine e_iconst (pc := 56) g 2 dX10_passed_56 kc_2 ?_
          refine e_icmp_ne (pc := 57) g 85 dX10_passed_57 (by decide) (fun c35 => ?_) (fun c35 => ?_)
          · have h := h.1 c35
            refine e_iconst (pc := 85) g (-1) dX10_passed_85 kc_m1 ?_
            exact e_iret (pc := 86) g gr rfl dX10_passed_86 h
          · have h := h.2 c35
            refine e_iload_n (pc := 60) g 2 dX10_passed_60 rfl ?_
            refine e_i2l (pc := 61) g dX10_passed_61 ?_
            refine e_lconst (pc := 62) g 0 dX10_passed_62 kl_0 ?_
            refine e_aload_n (pc := 63) g 0 dX10_passed_63 rfl ?_
            refine e_getI (pc := 64) g fl_X10_157 sh_72 rfl dX10_passed_64 ?_
            refine e_iconst (pc := 67) g 1 dX10_passed_67 kc_1 ?_
            refine e_isub (pc := 68) g dX10_passed_68 ?_
            refine e_i2l (pc := 69) g dX10_passed_69 ?_
            obtain ⟨r38, M36, f37, h⟩ := h
            refine e_callS (As := [.long (a2.toInt64), .long 0, .long (((M31.1 72 21) - 1).toInt64)]) (S := []) (pc := 70) g ok_X10_in ml_X10_117 f37 (by omega) rfl (Nat.le_of_ble_eq_true rfl) dX10_passed_70 ?_
            refine e_to (S' := [.int r38]) rfl rfl rfl ?_
            refine e_if_eq (pc := 73) g 85 dX10_passed_73 (by decide) (fun c39 => ?_) (fun c39 => ?_)
            · have h := h.1 c39
              refine e_iconst (pc := 85) g (-1) dX10_passed_85 kc_m1 ?_
              exact e_iret (pc := 86) g gr rfl dX10_passed_86 h
            · have h := h.2 c39
              refine e_aload_n (pc := 76) g 0 dX10_passed_76 rfl ?_
              refine e_getR (pc := 77) g 98 fl_X10_86 sh_72 rfl dX10_passed_77 ?_
              refine e_iload_n (pc := 80) g 2 dX10_passed_80 rfl ?_
              obtain ⟨o40, h⟩ := h
              refine e_iald (pc := 81) g sh_98 o40 dX10_passed_81 ?_
              refine e_goto (pc := 82) g 86 dX10_passed_82 (by decide) ?_
              exact e_iret (pc := 86) g gr rfl dX10_passed_86 h
        · have h := h.2 c34
          refine e_aload_n (pc := 48) g 0 dX10_passed_48 rfl ?_
          refine e_getR (pc := 49) g 97 fl_X10_83 sh_72 rfl dX10_passed_49 ?_
          refine e_iload_n (pc := 52) g 2 dX10_passed_52 rfl ?_
          obtain ⟨o41, h⟩ := h
          refine e_iald (pc := 53) g sh_97 o41 dX10_passed_53 ?_
          exact e_iret (pc := 54) g gr rfl dX10_passed_54 h
    · have h := h.2 c23
      refine e_aload_n (pc := 20) g 0 dX10_passed_20 rfl ?_
      refine e_getR (pc := 21) g 96 fl_X10_80 sh_72 rfl dX10_passed_21 ?_
      refine e_iload_n (pc := 24) g 2 dX10_passed_24 rfl ?_
      obtain ⟨o42, h⟩ := h
      refine e_iald (pc := 25) g sh_96 o42 dX10_passed_25 ?_
      exact e_iret (pc := 26) g gr rfl dX10_passed_26 h
/-- at the cut 13 of X10_world -/
def At_X10_world_13 (G : GC)  (v1 : Int32)  (M : MM) : Prop := Ev G 13 [(0, .ref 72), (1, .int v1)] [] M
set_option maxHeartbeats 4000000 in
set_option maxRecDepth 100000 in
theorem b_X10_world_0 {G : GC} {n : Nat} {r : Option Value} {M' : MM} (g : Good G mX10_world n) (gr : GoodR G r M') (hn : 1 ≤ n)    (M : MM) (h : ((¬ (M.1 72 32) = (3 : Int32) → At_X10_world_13 G 0 M) ∧ ((M.1 72 32) = (3 : Int32) → (r = some (.int (-3)) ∧ M' = M)))) : Ev G 0 [(0, .ref 72)] [] M := by
  refine e_aload_n (pc := 0) g 0 dX10_world_0 rfl ?_
  refine e_getI (pc := 1) g fl_X10_193 sh_72 rfl dX10_world_1 ?_
  refine e_iconst (pc := 4) g 3 dX10_world_4 kc_3 ?_
  refine e_icmp_ne (pc := 5) g 11 dX10_world_5 (by decide) (fun c1 => ?_) (fun c1 => ?_)
  · have h := h.1 c1
    refine e_iconst (pc := 11) g 0 dX10_world_11 kc_0 ?_
    refine e_istore_n (pc := 12) g [(0, .ref 72), (1, .int 0)] dX10_world_12 (by decide) rfl ?_
    exact h
  · have h := h.2 c1
    refine e_bipush (pc := 8) g (-3) dX10_world_8 kb_m3 ?_
    exact e_iret (pc := 10) g gr rfl dX10_world_10 h
set_option maxHeartbeats 4000000 in
set_option maxRecDepth 100000 in
theorem b_X10_world_13 {G : GC} {n : Nat} {r : Option Value} {M' : MM} (g : Good G mX10_world n) (gr : GoodR G r M') (hn : 1 ≤ n)  (v1 : Int32)  (M : MM) (h : (((6 : Int32) ≤ v1 → (∀ M2 : MM, M2 = ui M 72 32 ((M.1 72 32) + 1) → (r = some (.int ((M2.1 72 32) - 1)) ∧ M' = M2))) ∧ (¬ ((6 : Int32) ≤ v1) → (vp_in ((6 * (M.1 72 32)) + v1) 18) ∧ (∀ M4 : MM, M4 = ui M 99 ((6 * (M.1 72 32)) + v1).toNatClampNeg 0 → (∀ x5 : Int32, x5 = v1 + 1 → At_X10_world_13 G x5 M4))))) : At_X10_world_13 G v1 M := by
  unfold At_X10_world_13
  refine e_iload_n (pc := 13) g 1 dX10_world_13 rfl ?_
  refine e_bipush (pc := 14) g 6 dX10_world_14 kb_6 ?_
  refine e_icmp_ge (pc := 16) g 40 dX10_world_16 (by decide) (fun c1 => ?_) (fun c1 => ?_)
  · have h := h.1 c1
    refine e_aload_n (pc := 40) g 0 dX10_world_40 rfl ?_
    refine e_dup (pc := 41) g dX10_world_41 rfl ?_
    refine e_getI (pc := 42) g fl_X10_193 sh_72 rfl dX10_world_42 ?_
    refine e_iconst (pc := 45) g 1 dX10_world_45 kc_1 ?_
    refine e_iadd (pc := 46) g dX10_world_46 ?_
    refine e_putI (pc := 47) g fw_X10_193 sh_72 rfl dX10_world_47 ?_
    obtain ⟨M2, qM2⟩ : ∃ y : MM, y = ui M 72 32 ((M.1 72 32) + 1) := ⟨_, rfl⟩
    have h := h M2 qM2
    refine e_to (M' := M2) rfl rfl (by rw [qM2]) ?_
    refine e_aload_n (pc := 50) g 0 dX10_world_50 rfl ?_
    refine e_getI (pc := 51) g fl_X10_193 sh_72 rfl dX10_world_51 ?_
    refine e_iconst (pc := 54) g 1 dX10_world_54 kc_1 ?_
    refine e_isub (pc := 55) g dX10_world_55 ?_
    exact e_iret (pc := 56) g gr rfl dX10_world_56 h
  · have h := h.2 c1
    refine e_aload_n (pc := 19) g 0 dX10_world_19 rfl ?_
    refine e_getR (pc := 20) g 99 fl_X10_89 sh_72 rfl dX10_world_20 ?_
    refine e_bipush (pc := 23) g 6 dX10_world_23 kb_6 ?_
    refine e_aload_n (pc := 25) g 0 dX10_world_25 rfl ?_
    refine e_getI (pc := 26) g fl_X10_193 sh_72 rfl dX10_world_26 ?_
    refine e_imul (pc := 29) g dX10_world_29 ?_
    refine e_iload_n (pc := 30) g 1 dX10_world_30 rfl ?_
    refine e_iadd (pc := 31) g dX10_world_31 ?_
    refine e_iconst (pc := 32) g 0 dX10_world_32 kc_0 ?_
    obtain ⟨o3, h⟩ := h
    refine e_iast (pc := 33) g sh_99 o3 dX10_world_33 ?_
    obtain ⟨M4, qM4⟩ : ∃ y : MM, y = ui M 99 ((6 * (M.1 72 32)) + v1).toNatClampNeg 0 := ⟨_, rfl⟩
    have h := h M4 qM4
    refine e_to (M' := M4) rfl rfl (by rw [qM4]) ?_
    obtain ⟨x5, qx5⟩ : ∃ y : Int32, y = v1 + 1 := ⟨_, rfl⟩
    have h := h x5 qx5
    refine e_iinc (pc := 34) g 1 x5 [(0, .ref 72), (1, .int x5)] dX10_world_34 rfl (by rw [qx5]; rfl) (by decide) rfl ?_
    refine e_goto (pc := 37) g 13 dX10_world_37 (by decide) ?_
    exact h
set_option maxHeartbeats 4000000 in
set_option maxRecDepth 100000 in
theorem b_X10_foretell_0 {G : GC} {n : Nat} {r : Option Value} {M' : MM} (g : Good G mX10_foretell n) (gr : GoodR G r M') (hn : 2 ≤ n) (a1 : Int32) (a2 : Int32) (a3 : Int32)   (M : MM) (h : (∃ (r3 : Int32) (M1 : MM), Fn 1 mX10_in [.long (a1.toInt64), .long 0, .long (((M.1 72 32) - 1).toInt64)] M (some (.int r3)) M1 ∧ ((r3 = (0 : Int32) → (r = some (.int (-1)) ∧ M' = M1)) ∧ (¬ (r3 = (0 : Int32)) → (∃ (r7 : Int32) (M5 : MM), Fn 1 mX10_in [.long (a2.toInt64), .long 0, .long 5] M1 (some (.int r7)) M5 ∧ ((r7 = (0 : Int32) → (r = some (.int (-1)) ∧ M' = M5)) ∧ (¬ (r7 = (0 : Int32)) → (∃ (r11 : Int32) (M9 : MM), Fn 1 mX10_in [.long (a3.toInt64), .long 0, .long 100] M5 (some (.int r11)) M9 ∧ ((¬ r11 = (0 : Int32) → (vp_in ((6 * a1) + a2) 18) ∧ (∀ M14 : MM, M14 = ui M9 99 ((6 * a1) + a2).toNatClampNeg a3 → (r = some (.int 1) ∧ M' = M14))) ∧ (r11 = (0 : Int32) → (r = some (.int (-1)) ∧ M' = M9))))))))))) : Ev G 0 [(0, .ref 72), (1, .int a1), (2, .int a2), (3, .int a3)] [] M := by
  refine e_iload_n (pc := 0) g 1 dX10_foretell_0 rfl ?_
  refine e_i2l (pc := 1) g dX10_foretell_1 ?_
  refine e_lconst (pc := 2) g 0 dX10_foretell_2 kl_0 ?_
  refine e_aload_n (pc := 3) g 0 dX10_foretell_3 rfl ?_
  refine e_getI (pc := 4) g fl_X10_193 sh_72 rfl dX10_foretell_4 ?_
  refine e_iconst (pc := 7) g 1 dX10_foretell_7 kc_1 ?_
  refine e_isub (pc := 8) g dX10_foretell_8 ?_
  refine e_i2l (pc := 9) g dX10_foretell_9 ?_
  obtain ⟨r3, M1, f2, h⟩ := h
  refine e_callS (As := [.long (a1.toInt64), .long 0, .long (((M.1 72 32) - 1).toInt64)]) (S := []) (pc := 10) g ok_X10_in ml_X10_117 f2 (by omega) rfl (Nat.le_of_ble_eq_true rfl) dX10_foretell_10 ?_
  refine e_to (S' := [.int r3]) rfl rfl rfl ?_
  refine e_if_eq (pc := 13) g 40 dX10_foretell_13 (by decide) (fun c4 => ?_) (fun c4 => ?_)
  · have h := h.1 c4
    refine e_iconst (pc := 40) g (-1) dX10_foretell_40 kc_m1 ?_
    exact e_iret (pc := 41) g gr rfl dX10_foretell_41 h
  · have h := h.2 c4
    refine e_iload_n (pc := 16) g 2 dX10_foretell_16 rfl ?_
    refine e_i2l (pc := 17) g dX10_foretell_17 ?_
    refine e_lconst (pc := 18) g 0 dX10_foretell_18 kl_0 ?_
    refine e_ldc2 (pc := 19) g 5 kl_X10_196 dX10_foretell_19 ?_
    obtain ⟨r7, M5, f6, h⟩ := h
    refine e_callS (As := [.long (a2.toInt64), .long 0, .long 5]) (S := []) (pc := 22) g ok_X10_in ml_X10_117 f6 (by omega) rfl (Nat.le_of_ble_eq_true rfl) dX10_foretell_22 ?_
    refine e_to (S' := [.int r7]) rfl rfl rfl ?_
    refine e_if_eq (pc := 25) g 40 dX10_foretell_25 (by decide) (fun c8 => ?_) (fun c8 => ?_)
    · have h := h.1 c8
      refine e_iconst (pc := 40) g (-1) dX10_foretell_40 kc_m1 ?_
      exact e_iret (pc := 41) g gr rfl dX10_foretell_41 h
    · have h := h.2 c8
      refine e_iload_n (pc := 28) g 3 dX10_foretell_28 rfl ?_
      refine e_i2l (pc := 29) g dX10_foretell_29 ?_
      refine e_lconst (pc := 30) g 0 dX10_foretell_30 kl_0 ?_
      refine e_ldc2 (pc := 31) g 100 kl_X10_173 dX10_foretell_31 ?_
      obtain ⟨r11, M9, f10, h⟩ := h
      refine e_callS (As := [.long (a3.toInt64), .long 0, .long 100]) (S := []) (pc := 34) g ok_X10_in ml_X10_117 f10 (by omega) rfl (Nat.le_of_ble_eq_true rfl) dX10_foretell_34 ?_
      refine e_to (S' := [.int r11]) rfl rfl rfl ?_
      refine e_if_ne (pc := 37) g 42 dX10_foretell_37 (by decide) (fun c12 => ?_) (fun c12 => ?_)
      · have h := h.1 c12
        refine e_aload_n (pc := 42) g 0 dX10_foretell_42 rfl ?_
        refine e_getR (pc := 43) g 99 fl_X10_89 sh_72 rfl dX10_foretell_43 ?_
        refine e_bipush (pc := 46) g 6 dX10_foretell_46 kb_6 ?_
        refine e_iload_n (pc := 48) g 1 dX10_foretell_48 rfl ?_
        refine e_imul (pc := 49) g dX10_foretell_49 ?_
        refine e_iload_n (pc := 50) g 2 dX10_foretell_50 rfl ?_
        refine e_iadd (pc := 51) g dX10_foretell_51 ?_
        refine e_iload_n (pc := 52) g 3 dX10_foretell_52 rfl ?_
        obtain ⟨o13, h⟩ := h
        refine e_iast (pc := 53) g sh_99 o13 dX10_foretell_53 ?_
        obtain ⟨M14, qM14⟩ : ∃ y : MM, y = ui M9 99 ((6 * a1) + a2).toNatClampNeg a3 := ⟨_, rfl⟩
        have h := h M14 qM14
        refine e_to (M' := M14) rfl rfl (by rw [qM14]) ?_
        refine e_iconst (pc := 54) g 1 dX10_foretell_54 kc_1 ?_
        exact e_iret (pc := 55) g gr rfl dX10_foretell_55 h
      · have h := h.2 c12
        refine e_iconst (pc := 40) g (-1) dX10_foretell_40 kc_m1 ?_
        exact e_iret (pc := 41) g gr rfl dX10_foretell_41 h
set_option maxHeartbeats 4000000 in
set_option maxRecDepth 100000 in
theorem b_X10_isIn_0 {G : GC} {n : Nat} {r : Option Value} {M' : MM} (g : Good G mX10_isIn n) (gr : GoodR G r M') (hn : 1 ≤ n) (a1 : Int32) (a2 : Int32) (a3 : Int32)   (M : MM) (h : ((if ((a1 >>> (((2 * a2) + a3) &&& 31)) &&& 1) = (1 : Int32) then 1 else 0) = (0 : Int32) ∨ (if ((a1 >>> (((2 * a2) + a3) &&& 31)) &&& 1) = (1 : Int32) then 1 else 0) = (1 : Int32)) ∧ (r = some (.int (if ((a1 >>> (((2 * a2) + a3) &&& 31)) &&& 1) = (1 : Int32) then 1 else 0)) ∧ M' = M)) : Ev G 0 [(0, .ref 72), (1, .int a1), (2, .int a2), (3, .int a3)] [] M := by
  refine e_iload_n (pc := 0) g 1 dX10_isIn_0 rfl ?_
  refine e_iconst (pc := 1) g 2 dX10_isIn_1 kc_2 ?_
  refine e_iload_n (pc := 2) g 2 dX10_isIn_2 rfl ?_
  refine e_imul (pc := 3) g dX10_isIn_3 ?_
  refine e_iload_n (pc := 4) g 3 dX10_isIn_4 rfl ?_
  refine e_iadd (pc := 5) g dX10_isIn_5 ?_
  refine e_ishr (pc := 6) g dX10_isIn_6 ?_
  refine e_iconst (pc := 7) g 1 dX10_isIn_7 kc_1 ?_
  refine e_iand (pc := 8) g dX10_isIn_8 ?_
  refine e_iconst (pc := 9) g 1 dX10_isIn_9 kc_1 ?_
  have hj : Ev G 18 [(0, .ref 72), (1, .int a1), (2, .int a2), (3, .int a3)] [.int (if ((a1 >>> (((2 * a2) + a3) &&& 31)) &&& 1) = (1 : Int32) then 1 else 0)] M := by
    obtain ⟨o2, h⟩ := h
    exact e_zret (pc := 18) g gr rfl o2 dX10_isIn_18 h
  refine e_icmp_ne (pc := 10) g 17 dX10_isIn_10 (by decide) (fun c1 => ?_) (fun c1 => ?_)
  · rw [if_neg c1] at hj
    refine e_iconst (pc := 17) g 0 dX10_isIn_17 kc_0 ?_
    exact hj
  · rw [if_pos c1] at hj
    refine e_iconst (pc := 13) g 1 dX10_isIn_13 kc_1 ?_
    refine e_goto (pc := 14) g 18 dX10_isIn_14 (by decide) ?_
    exact hj
/-- at the cut 5 of X10_isWell -/
def At_X10_isWell_5 (G : GC)  (v1 : Int32) (v2 : Int32) (v3 : Int32) (v4 : Int32)  (M : MM) : Prop := Ev G 5 [(0, .ref 72), (1, .int v1), (2, .int v2), (3, .int v3), (4, .int v4)] [] M
set_option maxHeartbeats 4000000 in
set_option maxRecDepth 100000 in
theorem b_X10_isWell_0 {G : GC} {n : Nat} {r : Option Value} {M' : MM} (g : Good G mX10_isWell n) (gr : GoodR G r M') (hn : 2 ≤ n) (a1 : Int32) (a2 : Int32)   (M : MM) (h : At_X10_isWell_5 G a1 a2 1 0 M) : Ev G 0 [(0, .ref 72), (1, .int a1), (2, .int a2)] [] M := by
  refine e_iconst (pc := 0) g 1 dX10_isWell_0 kc_1 ?_
  refine e_istore_n (pc := 1) g [(0, .ref 72), (1, .int a1), (2, .int a2), (3, .int 1)] dX10_isWell_1 (by decide) rfl ?_
  refine e_iconst (pc := 2) g 0 dX10_isWell_2 kc_0 ?_
  refine e_istore (pc := 3) g [(0, .ref 72), (1, .int a1), (2, .int a2), (3, .int 1), (4, .int 0)] dX10_isWell_3 (by decide) rfl ?_
  exact h
/-- at the cut 36 of X10_isWell -/
def At_X10_isWell_36 (G : GC)  (v1 : Int32) (v2 : Int32) (v3 : Int32) (v4 : Int32) (v5 : Int32) (v6 : Int32) (v7 : Int32)  (M : MM) : Prop := Ev G 36 [(0, .ref 72), (1, .int v1), (2, .int v2), (3, .int v3), (4, .int v4), (5, .int v5), (6, .int v6), (7, .int v7)] [] M
set_option maxHeartbeats 4000000 in
set_option maxRecDepth 100000 in
theorem b_X10_isWell_5 {G : GC} {n : Nat} {r : Option Value} {M' : MM} (g : Good G mX10_isWell n) (gr : GoodR G r M') (hn : 2 ≤ n)  (v1 : Int32) (v2 : Int32) (v3 : Int32) (v4 : Int32)  (M : MM) (h : (((2 : Int32) ≤ v4 → (v3 = (0 : Int32) ∨ v3 = (1 : Int32)) ∧ (r = some (.int v3) ∧ M' = M)) ∧ (¬ ((2 : Int32) ≤ v4) → ((((M.1 72 13) : Int32) ≤ v4 → (v3 = (0 : Int32) ∨ v3 = (1 : Int32)) ∧ (r = some (.int v3) ∧ M' = M)) ∧ (¬ (((M.1 72 13) : Int32) ≤ v4) → (vp_in v4 4) ∧ (∀ x6 : Int32, x6 = (M.1 89 v4.toNatClampNeg) → At_X10_isWell_36 G v1 v2 v3 v4 x6 6 0 M)))))) : At_X10_isWell_5 G v1 v2 v3 v4 M := by
  unfold At_X10_isWell_5
  refine e_iload (pc := 5) g 4 dX10_isWell_5 rfl ?_
  refine e_iconst (pc := 7) g 2 dX10_isWell_7 kc_2 ?_
  refine e_icmp_ge (pc := 8) g 171 dX10_isWell_8 (by decide) (fun c1 => ?_) (fun c1 => ?_)
  · have h := h.1 c1
    refine e_iload_n (pc := 171) g 3 dX10_isWell_171 rfl ?_
    obtain ⟨o2, h⟩ := h
    exact e_zret (pc := 172) g gr rfl o2 dX10_isWell_172 h
  · have h := h.2 c1
    refine e_iload (pc := 11) g 4 dX10_isWell_11 rfl ?_
    refine e_aload_n (pc := 13) g 0 dX10_isWell_13 rfl ?_
    refine e_getI (pc := 14) g fl_X10_154 sh_72 rfl dX10_isWell_14 ?_
    refine e_icmp_ge (pc := 17) g 171 dX10_isWell_17 (by decide) (fun c3 => ?_) (fun c3 => ?_)
    · have h := h.1 c3
      refine e_iload_n (pc := 171) g 3 dX10_isWell_171 rfl ?_
      obtain ⟨o4, h⟩ := h
      exact e_zret (pc := 172) g gr rfl o4 dX10_isWell_172 h
    · have h := h.2 c3
      refine e_aload_n (pc := 20) g 0 dX10_isWell_20 rfl ?_
      refine e_getR (pc := 21) g 89 fl_X10_58 sh_72 rfl dX10_isWell_21 ?_
      refine e_iload (pc := 24) g 4 dX10_isWell_24 rfl ?_
      obtain ⟨o5, h⟩ := h
      refine e_zald (pc := 26) g sh_89 o5 dX10_isWell_26 ?_
      obtain ⟨x6, qx6⟩ : ∃ y : Int32, y = (M.1 89 v4.toNatClampNeg) := ⟨_, rfl⟩
      have h := h x6 qx6
      refine e_to (S' := [.int x6]) rfl (by rw [qx6]) rfl ?_
      refine e_istore (pc := 27) g [(0, .ref 72), (1, .int v1), (2, .int v2), (3, .int v3), (4, .int v4), (5, .int x6)] dX10_isWell_27 (by decide) rfl ?_
      refine e_bipush (pc := 29) g 6 dX10_isWell_29 kb_6 ?_
      refine e_istore (pc := 31) g [(0, .ref 72), (1, .int v1), (2, .int v2), (3, .int v3), (4, .int v4), (5, .int x6), (6, .int 6)] dX10_isWell_31 (by decide) rfl ?_
      refine e_iconst (pc := 33) g 0 dX10_isWell_33 kc_0 ?_
      refine e_istore (pc := 34) g [(0, .ref 72), (1, .int v1), (2, .int v2), (3, .int v3), (4, .int v4), (5, .int x6), (6, .int 6), (7, .int 0)] dX10_isWell_34 (by decide) rfl ?_
      exact h
/-- at the cut 83 of X10_isWell -/
def At_X10_isWell_83 (G : GC)  (v1 : Int32) (v2 : Int32) (v3 : Int32) (v4 : Int32) (v5 : Int32) (v6 : Int32) (v7 : Int32) (v8 : Int32) (t0 : Int32) (M : MM) : Prop := Ev G 83 [(0, .ref 72), (1, .int v1), (2, .int v2), (3, .int v3), (4, .int v4), (5, .int v5), (6, .int v6), (7, .int v7), (8, .int v8)] [.int t0] M
set_option maxHeartbeats 4000000 in
set_option maxRecDepth 100000 in
theorem b_X10_isWell_36 {G : GC} {n : Nat} {r : Option Value} {M' : MM} (g : Good G mX10_isWell n) (gr : GoodR G r M') (hn : 2 ≤ n)  (v1 : Int32) (v2 : Int32) (v3 : Int32) (v4 : Int32) (v5 : Int32) (v6 : Int32) (v7 : Int32)  (M : MM) (h : (((v1 : Int32) ≤ v7 → (∀ x2 : Int32, x2 = v4 + 1 → At_X10_isWell_5 G v1 v2 v3 x2 M)) ∧ (¬ ((v1 : Int32) ≤ v7) → (∃ (r5 : Int32) (M3 : MM), Fn 1 mX10_isIn [.ref 72, .int v2, .int v7, .int v4] M (some (.int r5)) M3 ∧ ((v3 = (0 : Int32) → At_X10_isWell_83 G v1 v2 v3 v4 v5 v6 v7 r5 0 M3) ∧ (¬ (v3 = (0 : Int32)) → ((r5 = (0 : Int32) → At_X10_isWell_83 G v1 v2 v3 v4 v5 v6 v7 r5 1 M3) ∧ (¬ (r5 = (0 : Int32)) → (∃ (r10 : Int32) (M8 : MM), Fn 1 mX10_isPaused [.ref 72, .int v4, .int ((M3.1 72 27) + v7)] M3 (some (.int r10)) M8 ∧ ((¬ r10 = (0 : Int32) → At_X10_isWell_83 G v1 v2 v3 v4 v5 v6 v7 r5 0 M8) ∧ (r10 = (0 : Int32) → At_X10_isWell_83 G v1 v2 v3 v4 v5 v6 v7 r5 1 M8))))))))))) : At_X10_isWell_36 G v1 v2 v3 v4 v5 v6 v7 M := by
  unfold At_X10_isWell_36
  refine e_iload (pc := 36) g 7 dX10_isWell_36 rfl ?_
  refine e_iload_n (pc := 38) g 1 dX10_isWell_38 rfl ?_
  refine e_icmp_ge (pc := 39) g 165 dX10_isWell_39 (by decide) (fun c1 => ?_) (fun c1 => ?_)
  · have h := h.1 c1
    obtain ⟨x2, qx2⟩ : ∃ y : Int32, y = v4 + 1 := ⟨_, rfl⟩
    have h := h x2 qx2
    refine e_iinc (pc := 165) g 4 x2 [(0, .ref 72), (1, .int v1), (2, .int v2), (3, .int v3), (4, .int x2), (5, .int v5), (6, .int v6), (7, .int v7)] dX10_isWell_165 rfl (by rw [qx2]; rfl) (by decide) rfl ?_
    refine e_goto (pc := 168) g 5 dX10_isWell_168 (by decide) ?_
    refine e_sub [(0, .ref 72), (1, .int v1), (2, .int v2), (3, .int v3), (4, .int x2)] [0, 1, 2, 3, 4] rfl ?_
    exact h
  · have h := h.2 c1
    refine e_aload_n (pc := 42) g 0 dX10_isWell_42 rfl ?_
    refine e_iload_n (pc := 43) g 2 dX10_isWell_43 rfl ?_
    refine e_iload (pc := 44) g 7 dX10_isWell_44 rfl ?_
    refine e_iload (pc := 46) g 4 dX10_isWell_46 rfl ?_
    obtain ⟨r5, M3, f4, h⟩ := h
    refine e_callV (As := [.int v2, .int v7, .int v4]) (S := []) (pc := 48) g ok_X10_isIn ml_X10_198 sh_72 ⟨_, rfl, rfl⟩ f4 (by omega) rfl (Nat.le_of_ble_eq_true rfl) dX10_isWell_48 ?_
    refine e_to (S' := [.int r5]) rfl rfl rfl ?_
    refine e_istore (pc := 51) g [(0, .ref 72), (1, .int v1), (2, .int v2), (3, .int v3), (4, .int v4), (5, .int v5), (6, .int v6), (7, .int v7), (8, .int r5)] dX10_isWell_51 (by decide) rfl ?_
    refine e_iload_n (pc := 53) g 3 dX10_isWell_53 rfl ?_
    refine e_if_eq (pc := 54) g 82 dX10_isWell_54 (by decide) (fun c6 => ?_) (fun c6 => ?_)
    · have h := h.1 c6
      refine e_iconst (pc := 82) g 0 dX10_isWell_82 kc_0 ?_
      exact h
    · have h := h.2 c6
      refine e_iload (pc := 57) g 8 dX10_isWell_57 rfl ?_
      refine e_if_eq (pc := 59) g 78 dX10_isWell_59 (by decide) (fun c7 => ?_) (fun c7 => ?_)
      · have h := h.1 c7
        refine e_iconst (pc := 78) g 1 dX10_isWell_78 kc_1 ?_
        refine e_goto (pc := 79) g 83 dX10_isWell_79 (by decide) ?_
        exact h
      · have h := h.2 c7
        refine e_aload_n (pc := 62) g 0 dX10_isWell_62 rfl ?_
        refine e_iload (pc := 63) g 4 dX10_isWell_63 rfl ?_
        refine e_aload_n (pc := 65) g 0 dX10_isWell_65 rfl ?_
        refine e_getI (pc := 66) g fl_X10_160 sh_72 rfl dX10_isWell_66 ?_
        refine e_iload (pc := 69) g 7 dX10_isWell_69 rfl ?_
        refine e_iadd (pc := 71) g dX10_isWell_71 ?_
        obtain ⟨r10, M8, f9, h⟩ := h
        refine e_callV (As := [.int v4, .int ((M3.1 72 27) + v7)]) (S := []) (pc := 72) g ok_X10_isPaused ml_X10_163 sh_72 ⟨_, rfl, rfl⟩ f9 (by omega) rfl (Nat.le_of_ble_eq_true rfl) dX10_isWell_72 ?_
        refine e_to (S' := [.int r10]) rfl rfl rfl ?_
        refine e_if_ne (pc := 75) g 82 dX10_isWell_75 (by decide) (fun c11 => ?_) (fun c11 => ?_)
        · have h := h.1 c11
          refine e_iconst (pc := 82) g 0 dX10_isWell_82 kc_0 ?_
          exact h
        · have h := h.2 c11
          refine e_iconst (pc := 78) g 1 dX10_isWell_78 kc_1 ?_
          refine e_goto (pc := 79) g 83 dX10_isWell_79 (by decide) ?_
          exact h
/-- at the cut 140 of X10_isWell -/
def At_X10_isWell_140 (G : GC)  (v1 : Int32) (v2 : Int32) (v3 : Int32) (v4 : Int32) (v5 : Int32) (v6 : Int32) (v7 : Int32) (v8 : Int32) (t0 : Int32) (M : MM) : Prop := Ev G 140 [(0, .ref 72), (1, .int v1), (2, .int v2), (3, .int v3), (4, .int v4), (5, .int v5), (6, .int v6), (7, .int v7), (8, .int v8)] [.int t0] M
set_option maxHeartbeats 4000000 in
set_option maxRecDepth 100000 in
theorem b_X10_isWell_83 {G : GC} {n : Nat} {r : Option Value} {M' : MM} (g : Good G mX10_isWell n) (gr : GoodR G r M') (hn : 2 ≤ n)  (v1 : Int32) (v2 : Int32) (v3 : Int32) (v4 : Int32) (v5 : Int32) (v6 : Int32) (v7 : Int32) (v8 : Int32) (t0 : Int32)  (M : MM) (h : (∀ x3 : Int32, x3 = (if v8 = (0 : Int32) then v6 else (if v5 = (0 : Int32) then 1 else (v6 + 1))) → ((t0 = (0 : Int32) → At_X10_isWell_140 G v1 v2 t0 v4 v5 x3 v7 v8 0 M) ∧ (¬ (t0 = (0 : Int32)) → ((v5 = (0 : Int32) → At_X10_isWell_140 G v1 v2 t0 v4 v5 x3 v7 v8 1 M) ∧ (¬ (v5 = (0 : Int32)) → ((¬ v8 = (0 : Int32) → At_X10_isWell_140 G v1 v2 t0 v4 v5 x3 v7 v8 1 M) ∧ (v8 = (0 : Int32) → (vp_in v4 4) ∧ ((x3 < ((M.1 87 v4.toNatClampNeg) : Int32) → At_X10_isWell_140 G v1 v2 t0 v4 v5 x3 v7 v8 0 M) ∧ (¬ (x3 < ((M.1 87 v4.toNatClampNeg) : Int32)) → At_X10_isWell_140 G v1 v2 t0 v4 v5 x3 v7 v8 1 M)))))))))) : At_X10_isWell_83 G v1 v2 v3 v4 v5 v6 v7 v8 t0 M := by
  unfold At_X10_isWell_83
  refine e_istore_n (pc := 83) g [(0, .ref 72), (1, .int v1), (2, .int v2), (3, .int t0), (4, .int v4), (5, .int v5), (6, .int v6), (7, .int v7), (8, .int v8)] dX10_isWell_83 (by decide) rfl ?_
  refine e_iload (pc := 84) g 8 dX10_isWell_84 rfl ?_
  have hj : Ev G 107 [(0, .ref 72), (1, .int v1), (2, .int v2), (3, .int t0), (4, .int v4), (5, .int v5), (6, .int v6), (7, .int v7), (8, .int v8)] [.int (if v8 = (0 : Int32) then v6 else (if v5 = (0 : Int32) then 1 else (v6 + 1)))] M := by
    obtain ⟨x3, qx3⟩ : ∃ y : Int32, y = (if v8 = (0 : Int32) then v6 else (if v5 = (0 : Int32) then 1 else (v6 + 1))) := ⟨_, rfl⟩
    have h := h x3 qx3
    refine e_to (S' := [.int x3]) rfl (by rw [qx3]) rfl ?_
    refine e_istore (pc := 107) g [(0, .ref 72), (1, .int v1), (2, .int v2), (3, .int t0), (4, .int v4), (5, .int v5), (6, .int x3), (7, .int v7), (8, .int v8)] dX10_isWell_107 (by decide) rfl ?_
    refine e_iload_n (pc := 109) g 3 dX10_isWell_109 rfl ?_
    refine e_if_eq (pc := 110) g 139 dX10_isWell_110 (by decide) (fun c4 => ?_) (fun c4 => ?_)
    · have h := h.1 c4
      refine e_iconst (pc := 139) g 0 dX10_isWell_139 kc_0 ?_
      exact h
    · have h := h.2 c4
      refine e_iload (pc := 113) g 5 dX10_isWell_113 rfl ?_
      refine e_if_eq (pc := 115) g 135 dX10_isWell_115 (by decide) (fun c5 => ?_) (fun c5 => ?_)
      · have h := h.1 c5
        refine e_iconst (pc := 135) g 1 dX10_isWell_135 kc_1 ?_
        refine e_goto (pc := 136) g 140 dX10_isWell_136 (by decide) ?_
        exact h
      · have h := h.2 c5
        refine e_iload (pc := 118) g 8 dX10_isWell_118 rfl ?_
        refine e_if_ne (pc := 120) g 135 dX10_isWell_120 (by decide) (fun c6 => ?_) (fun c6 => ?_)
        · have h := h.1 c6
          refine e_iconst (pc := 135) g 1 dX10_isWell_135 kc_1 ?_
          refine e_goto (pc := 136) g 140 dX10_isWell_136 (by decide) ?_
          exact h
        · have h := h.2 c6
          refine e_iload (pc := 123) g 6 dX10_isWell_123 rfl ?_
          refine e_aload_n (pc := 125) g 0 dX10_isWell_125 rfl ?_
          refine e_getR (pc := 126) g 87 fl_X10_52 sh_72 rfl dX10_isWell_126 ?_
          refine e_iload (pc := 129) g 4 dX10_isWell_129 rfl ?_
          obtain ⟨o7, h⟩ := h
          refine e_iald (pc := 131) g sh_87 o7 dX10_isWell_131 ?_
          refine e_icmp_lt (pc := 132) g 139 dX10_isWell_132 (by decide) (fun c8 => ?_) (fun c8 => ?_)
          · have h := h.1 c8
            refine e_iconst (pc := 139) g 0 dX10_isWell_139 kc_0 ?_
            exact h
          · have h := h.2 c8
            refine e_iconst (pc := 135) g 1 dX10_isWell_135 kc_1 ?_
            refine e_goto (pc := 136) g 140 dX10_isWell_136 (by decide) ?_
            exact h
  refine e_if_eq (pc := 86) g 105 dX10_isWell_86 (by decide) (fun c1 => ?_) (fun c1 => ?_)
  · rw [if_pos c1] at hj
    refine e_iload (pc := 105) g 6 dX10_isWell_105 rfl ?_
    exact hj
  · rw [if_neg c1] at hj
    refine e_iload (pc := 89) g 5 dX10_isWell_89 rfl ?_
    refine e_if_eq (pc := 91) g 101 dX10_isWell_91 (by decide) (fun c2 => ?_) (fun c2 => ?_)
    · rw [if_pos c2] at hj
      refine e_iconst (pc := 101) g 1 dX10_isWell_101 kc_1 ?_
      refine e_goto (pc := 102) g 107 dX10_isWell_102 (by decide) ?_
      exact hj
    · rw [if_neg c2] at hj
      refine e_iload (pc := 94) g 6 dX10_isWell_94 rfl ?_
      refine e_iconst (pc := 96) g 1 dX10_isWell_96 kc_1 ?_
      refine e_iadd (pc := 97) g dX10_isWell_97 ?_
      refine e_goto (pc := 98) g 107 dX10_isWell_98 (by decide) ?_
      exact hj
set_option maxHeartbeats 4000000 in
set_option maxRecDepth 100000 in
theorem b_X10_isWell_140 {G : GC} {n : Nat} {r : Option Value} {M' : MM} (g : Good G mX10_isWell n) (gr : GoodR G r M') (hn : 2 ≤ n)  (v1 : Int32) (v2 : Int32) (v3 : Int32) (v4 : Int32) (v5 : Int32) (v6 : Int32) (v7 : Int32) (v8 : Int32) (t0 : Int32)  (M : MM) (h : (∀ x2 : Int32, x2 = (if v8 = (0 : Int32) then 6 else v6) → (∀ x3 : Int32, x3 = v7 + 1 → At_X10_isWell_36 G v1 v2 t0 v4 v8 x2 x3 M))) : At_X10_isWell_140 G v1 v2 v3 v4 v5 v6 v7 v8 t0 M := by
  unfold At_X10_isWell_140
  refine e_istore_n (pc := 140) g [(0, .ref 72), (1, .int v1), (2, .int v2), (3, .int t0), (4, .int v4), (5, .int v5), (6, .int v6), (7, .int v7), (8, .int v8)] dX10_isWell_140 (by decide) rfl ?_
  refine e_iload (pc := 141) g 8 dX10_isWell_141 rfl ?_
  have hj : Ev G 153 [(0, .ref 72), (1, .int v1), (2, .int v2), (3, .int t0), (4, .int v4), (5, .int v5), (6, .int v6), (7, .int v7), (8, .int v8)] [.int (if v8 = (0 : Int32) then 6 else v6)] M := by
    obtain ⟨x2, qx2⟩ : ∃ y : Int32, y = (if v8 = (0 : Int32) then 6 else v6) := ⟨_, rfl⟩
    have h := h x2 qx2
    refine e_to (S' := [.int x2]) rfl (by rw [qx2]) rfl ?_
    refine e_istore (pc := 153) g [(0, .ref 72), (1, .int v1), (2, .int v2), (3, .int t0), (4, .int v4), (5, .int v5), (6, .int x2), (7, .int v7), (8, .int v8)] dX10_isWell_153 (by decide) rfl ?_
    refine e_iload (pc := 155) g 8 dX10_isWell_155 rfl ?_
    refine e_istore (pc := 157) g [(0, .ref 72), (1, .int v1), (2, .int v2), (3, .int t0), (4, .int v4), (5, .int v8), (6, .int x2), (7, .int v7), (8, .int v8)] dX10_isWell_157 (by decide) rfl ?_
    obtain ⟨x3, qx3⟩ : ∃ y : Int32, y = v7 + 1 := ⟨_, rfl⟩
    have h := h x3 qx3
    refine e_iinc (pc := 159) g 7 x3 [(0, .ref 72), (1, .int v1), (2, .int v2), (3, .int t0), (4, .int v4), (5, .int v8), (6, .int x2), (7, .int x3), (8, .int v8)] dX10_isWell_159 rfl (by rw [qx3]; rfl) (by decide) rfl ?_
    refine e_goto (pc := 162) g 36 dX10_isWell_162 (by decide) ?_
    refine e_sub [(0, .ref 72), (1, .int v1), (2, .int v2), (3, .int t0), (4, .int v4), (5, .int v8), (6, .int x2), (7, .int x3)] [0, 1, 2, 3, 4, 5, 6, 7] rfl ?_
    exact h
  refine e_if_eq (pc := 143) g 151 dX10_isWell_143 (by decide) (fun c1 => ?_) (fun c1 => ?_)
  · rw [if_pos c1] at hj
    refine e_bipush (pc := 151) g 6 dX10_isWell_151 kb_6 ?_
    exact hj
  · rw [if_neg c1] at hj
    refine e_iload (pc := 146) g 6 dX10_isWell_146 rfl ?_
    refine e_goto (pc := 148) g 153 dX10_isWell_148 (by decide) ?_
    exact hj
/-- at the cut 5 of X10_costOf -/
def At_X10_costOf_5 (G : GC)  (v1 : Int32) (v2 : Int32) (v3 : Int64) (v5 : Int32)  (M : MM) : Prop := Ev G 5 [(0, .ref 72), (1, .int v1), (2, .int v2), (3, .long v3), (5, .int v5)] [] M
set_option maxHeartbeats 4000000 in
set_option maxRecDepth 100000 in
theorem b_X10_costOf_0 {G : GC} {n : Nat} {r : Option Value} {M' : MM} (g : Good G mX10_costOf n) (gr : GoodR G r M') (hn : 2 ≤ n) (a1 : Int32) (a2 : Int32)   (M : MM) (h : At_X10_costOf_5 G a1 a2 0 0 M) : Ev G 0 [(0, .ref 72), (1, .int a1), (2, .int a2)] [] M := by
  refine e_lconst (pc := 0) g 0 dX10_costOf_0 kl_0 ?_
  refine e_lstore_n (pc := 1) g [(0, .ref 72), (1, .int a1), (2, .int a2), (3, .long 0)] dX10_costOf_1 (by decide) rfl ?_
  refine e_iconst (pc := 2) g 0 dX10_costOf_2 kc_0 ?_
  refine e_istore (pc := 3) g [(0, .ref 72), (1, .int a1), (2, .int a2), (3, .long 0), (5, .int 0)] dX10_costOf_3 (by decide) rfl ?_
  exact h
/-- at the cut 14 of X10_costOf -/
def At_X10_costOf_14 (G : GC)  (v1 : Int32) (v2 : Int32) (v3 : Int64) (v5 : Int32) (v6 : Int32)  (M : MM) : Prop := Ev G 14 [(0, .ref 72), (1, .int v1), (2, .int v2), (3, .long v3), (5, .int v5), (6, .int v6)] [] M
set_option maxHeartbeats 4000000 in
set_option maxRecDepth 100000 in
theorem b_X10_costOf_5 {G : GC} {n : Nat} {r : Option Value} {M' : MM} (g : Good G mX10_costOf n) (gr : GoodR G r M') (hn : 2 ≤ n)  (v1 : Int32) (v2 : Int32) (v3 : Int64) (v5 : Int32)  (M : MM) (h : (((v1 : Int32) ≤ v5 → (r = some (.long v3) ∧ M' = M)) ∧ (¬ ((v1 : Int32) ≤ v5) → At_X10_costOf_14 G v1 v2 v3 v5 0 M))) : At_X10_costOf_5 G v1 v2 v3 v5 M := by
  unfold At_X10_costOf_5
  refine e_iload (pc := 5) g 4 dX10_costOf_5 rfl ?_
  refine e_iload_n (pc := 7) g 1 dX10_costOf_7 rfl ?_
  refine e_icmp_ge (pc := 8) g 76 dX10_costOf_8 (by decide) (fun c1 => ?_) (fun c1 => ?_)
  · have h := h.1 c1
    refine e_lload_n (pc := 76) g 3 dX10_costOf_76 rfl ?_
    exact e_lret (pc := 77) g gr rfl dX10_costOf_77 h
  · have h := h.2 c1
    refine e_iconst (pc := 11) g 0 dX10_costOf_11 kc_0 ?_
    refine e_istore (pc := 12) g [(0, .ref 72), (1, .int v1), (2, .int v2), (3, .long v3), (5, .int v5), (6, .int 0)] dX10_costOf_12 (by decide) rfl ?_
    exact h
set_option maxHeartbeats 4000000 in
set_option maxRecDepth 100000 in
theorem b_X10_costOf_14 {G : GC} {n : Nat} {r : Option Value} {M' : MM} (g : Good G mX10_costOf n) (gr : GoodR G r M') (hn : 2 ≤ n)  (v1 : Int32) (v2 : Int32) (v3 : Int64) (v5 : Int32) (v6 : Int32)  (M : MM) (h : (((2 : Int32) ≤ v6 → (∀ x2 : Int32, x2 = v5 + 1 → At_X10_costOf_5 G v1 v2 v3 x2 M)) ∧ (¬ ((2 : Int32) ≤ v6) → ((((M.1 72 13) : Int32) ≤ v6 → (∀ x4 : Int32, x4 = v5 + 1 → At_X10_costOf_5 G v1 v2 v3 x4 M)) ∧ (¬ (((M.1 72 13) : Int32) ≤ v6) → (∃ (r7 : Int32) (M5 : MM), Fn 1 mX10_isIn [.ref 72, .int v2, .int v5, .int v6] M (some (.int r7)) M5 ∧ ((r7 = (0 : Int32) → (∀ x9 : Int64, x9 = (v3 + 0) → (∀ x10 : Int32, x10 = v6 + 1 → At_X10_costOf_14 G v1 v2 x9 v5 x10 M5))) ∧ (¬ (r7 = (0 : Int32)) → (¬ 24 = (0 : Int32)) ∧ (vp_in (((M5.1 72 27) + v5) - ((M5.1 72 27) + v5) / 24 * 24) 24) ∧ (∀ x13 : Int64, x13 = (v3 + ((M5.1 95 (((M5.1 72 27) + v5) - ((M5.1 72 27) + v5) / 24 * 24).toNatClampNeg).toInt64)) → (∀ x14 : Int32, x14 = v6 + 1 → At_X10_costOf_14 G v1 v2 x13 v5 x14 M5)))))))))) : At_X10_costOf_14 G v1 v2 v3 v5 v6 M := by
  unfold At_X10_costOf_14
  refine e_iload (pc := 14) g 5 dX10_costOf_14 rfl ?_
  refine e_iconst (pc := 16) g 2 dX10_costOf_16 kc_2 ?_
  refine e_icmp_ge (pc := 17) g 70 dX10_costOf_17 (by decide) (fun c1 => ?_) (fun c1 => ?_)
  · have h := h.1 c1
    obtain ⟨x2, qx2⟩ : ∃ y : Int32, y = v5 + 1 := ⟨_, rfl⟩
    have h := h x2 qx2
    refine e_iinc (pc := 70) g 4 x2 [(0, .ref 72), (1, .int v1), (2, .int v2), (3, .long v3), (5, .int x2), (6, .int v6)] dX10_costOf_70 rfl (by rw [qx2]; rfl) (by decide) rfl ?_
    refine e_goto (pc := 73) g 5 dX10_costOf_73 (by decide) ?_
    refine e_sub [(0, .ref 72), (1, .int v1), (2, .int v2), (3, .long v3), (5, .int x2)] [0, 1, 2, 3, 4] rfl ?_
    exact h
  · have h := h.2 c1
    refine e_iload (pc := 20) g 5 dX10_costOf_20 rfl ?_
    refine e_aload_n (pc := 22) g 0 dX10_costOf_22 rfl ?_
    refine e_getI (pc := 23) g fl_X10_154 sh_72 rfl dX10_costOf_23 ?_
    refine e_icmp_ge (pc := 26) g 70 dX10_costOf_26 (by decide) (fun c3 => ?_) (fun c3 => ?_)
    · have h := h.1 c3
      obtain ⟨x4, qx4⟩ : ∃ y : Int32, y = v5 + 1 := ⟨_, rfl⟩
      have h := h x4 qx4
      refine e_iinc (pc := 70) g 4 x4 [(0, .ref 72), (1, .int v1), (2, .int v2), (3, .long v3), (5, .int x4), (6, .int v6)] dX10_costOf_70 rfl (by rw [qx4]; rfl) (by decide) rfl ?_
      refine e_goto (pc := 73) g 5 dX10_costOf_73 (by decide) ?_
      refine e_sub [(0, .ref 72), (1, .int v1), (2, .int v2), (3, .long v3), (5, .int x4)] [0, 1, 2, 3, 4] rfl ?_
      exact h
    · have h := h.2 c3
      refine e_lload_n (pc := 29) g 3 dX10_costOf_29 rfl ?_
      refine e_aload_n (pc := 30) g 0 dX10_costOf_30 rfl ?_
      refine e_iload_n (pc := 31) g 2 dX10_costOf_31 rfl ?_
      refine e_iload (pc := 32) g 4 dX10_costOf_32 rfl ?_
      refine e_iload (pc := 34) g 5 dX10_costOf_34 rfl ?_
      obtain ⟨r7, M5, f6, h⟩ := h
      refine e_callV (As := [.int v2, .int v5, .int v6]) (S := [.long v3]) (pc := 36) g ok_X10_isIn ml_X10_198 sh_72 ⟨_, rfl, rfl⟩ f6 (by omega) rfl (Nat.le_of_ble_eq_true rfl) dX10_costOf_36 ?_
      refine e_to (S' := [.int r7, .long v3]) rfl rfl rfl ?_
      refine e_if_eq (pc := 39) g 61 dX10_costOf_39 (by decide) (fun c8 => ?_) (fun c8 => ?_)
      · have h := h.1 c8
        refine e_lconst (pc := 61) g 0 dX10_costOf_61 kl_0 ?_
        refine e_ladd (pc := 62) g dX10_costOf_62 ?_
        obtain ⟨x9, qx9⟩ : ∃ y : Int64, y = (v3 + 0) := ⟨_, rfl⟩
        have h := h x9 qx9
        refine e_to (S' := [.long x9]) rfl (by rw [qx9]) rfl ?_
        refine e_lstore_n (pc := 63) g [(0, .ref 72), (1, .int v1), (2, .int v2), (3, .long x9), (5, .int v5), (6, .int v6)] dX10_costOf_63 (by decide) rfl ?_
        obtain ⟨x10, qx10⟩ : ∃ y : Int32, y = v6 + 1 := ⟨_, rfl⟩
        have h := h x10 qx10
        refine e_iinc (pc := 64) g 5 x10 [(0, .ref 72), (1, .int v1), (2, .int v2), (3, .long x9), (5, .int v5), (6, .int x10)] dX10_costOf_64 rfl (by rw [qx10]; rfl) (by decide) rfl ?_
        refine e_goto (pc := 67) g 14 dX10_costOf_67 (by decide) ?_
        exact h
      · have h := h.2 c8
        refine e_aload_n (pc := 42) g 0 dX10_costOf_42 rfl ?_
        refine e_getR (pc := 43) g 95 fl_X10_77 sh_72 rfl dX10_costOf_43 ?_
        refine e_aload_n (pc := 46) g 0 dX10_costOf_46 rfl ?_
        refine e_getI (pc := 47) g fl_X10_160 sh_72 rfl dX10_costOf_47 ?_
        refine e_iload (pc := 50) g 4 dX10_costOf_50 rfl ?_
        refine e_iadd (pc := 52) g dX10_costOf_52 ?_
        refine e_bipush (pc := 53) g 24 dX10_costOf_53 kb_24 ?_
        obtain ⟨o11, h⟩ := h
        refine e_irem (pc := 55) g dX10_costOf_55 o11 ?_
        obtain ⟨o12, h⟩ := h
        refine e_iald (pc := 56) g sh_95 o12 dX10_costOf_56 ?_
        refine e_i2l (pc := 57) g dX10_costOf_57 ?_
        refine e_goto (pc := 58) g 62 dX10_costOf_58 (by decide) ?_
        refine e_ladd (pc := 62) g dX10_costOf_62 ?_
        obtain ⟨x13, qx13⟩ : ∃ y : Int64, y = (v3 + ((M5.1 95 (((M5.1 72 27) + v5) - ((M5.1 72 27) + v5) / 24 * 24).toNatClampNeg).toInt64)) := ⟨_, rfl⟩
        have h := h x13 qx13
        refine e_to (S' := [.long x13]) rfl (by rw [qx13]) rfl ?_
        refine e_lstore_n (pc := 63) g [(0, .ref 72), (1, .int v1), (2, .int v2), (3, .long x13), (5, .int v5), (6, .int v6)] dX10_costOf_63 (by decide) rfl ?_
        obtain ⟨x14, qx14⟩ : ∃ y : Int32, y = v6 + 1 := ⟨_, rfl⟩
        have h := h x14 qx14
        refine e_iinc (pc := 64) g 5 x14 [(0, .ref 72), (1, .int v1), (2, .int v2), (3, .long x13), (5, .int v5), (6, .int x14)] dX10_costOf_64 rfl (by rw [qx14]; rfl) (by decide) rfl ?_
        refine e_goto (pc := 67) g 14 dX10_costOf_67 (by decide) ?_
        exact h
/-- at the cut 2 of X10_keeps -/
def At_X10_keeps_2 (G : GC)  (v1 : Int32)  (M : MM) : Prop := Ev G 2 [(0, .ref 72), (1, .int v1)] [] M
set_option maxHeartbeats 4000000 in
set_option maxRecDepth 100000 in
theorem b_X10_keeps_0 {G : GC} {n : Nat} {r : Option Value} {M' : MM} (g : Good G mX10_keeps n) (gr : GoodR G r M') (hn : 1 ≤ n)    (M : MM) (h : At_X10_keeps_2 G 0 M) : Ev G 0 [(0, .ref 72)] [] M := by
  refine e_iconst (pc := 0) g 0 dX10_keeps_0 kc_0 ?_
  refine e_istore_n (pc := 1) g [(0, .ref 72), (1, .int 0)] dX10_keeps_1 (by decide) rfl ?_
  exact h
set_option maxHeartbeats 4000000 in
set_option maxRecDepth 100000 in
theorem b_X10_keeps_2 {G : GC} {n : Nat} {r : Option Value} {M' : MM} (g : Good G mX10_keeps n) (gr : GoodR G r M') (hn : 1 ≤ n)  (v1 : Int32)  (M : MM) (h : (((6 : Int32) ≤ v1 → (r = none ∧ M' = M)) ∧ (¬ ((6 : Int32) ≤ v1) → (vp_in v1 6) ∧ (∀ M3 : MM, M3 = ui M 100 v1.toNatClampNeg (M.1 75 v1.toNatClampNeg) → (∀ M4 : MM, M4 = ui M3 101 v1.toNatClampNeg (M3.1 78 v1.toNatClampNeg) → (∀ M5 : MM, M5 = ui M4 102 v1.toNatClampNeg (M4.1 79 v1.toNatClampNeg) → (∀ x6 : Int32, x6 = v1 + 1 → At_X10_keeps_2 G x6 M5))))))) : At_X10_keeps_2 G v1 M := by
  unfold At_X10_keeps_2
  refine e_iload_n (pc := 2) g 1 dX10_keeps_2 rfl ?_
  refine e_bipush (pc := 3) g 6 dX10_keeps_3 kb_6 ?_
  refine e_icmp_ge (pc := 5) g 50 dX10_keeps_5 (by decide) (fun c1 => ?_) (fun c1 => ?_)
  · have h := h.1 c1
    exact e_vret (pc := 50) g gr rfl dX10_keeps_50 h
  · have h := h.2 c1
    refine e_aload_n (pc := 8) g 0 dX10_keeps_8 rfl ?_
    refine e_getR (pc := 9) g 100 fl_X10_92 sh_72 rfl dX10_keeps_9 ?_
    refine e_iload_n (pc := 12) g 1 dX10_keeps_12 rfl ?_
    refine e_aload_n (pc := 13) g 0 dX10_keeps_13 rfl ?_
    refine e_getR (pc := 14) g 75 fl_X10_16 sh_72 rfl dX10_keeps_14 ?_
    refine e_iload_n (pc := 17) g 1 dX10_keeps_17 rfl ?_
    obtain ⟨o2, h⟩ := h
    refine e_iald (pc := 18) g sh_75 o2 dX10_keeps_18 ?_
    refine e_iast (pc := 19) g sh_100 o2 dX10_keeps_19 ?_
    obtain ⟨M3, qM3⟩ : ∃ y : MM, y = ui M 100 v1.toNatClampNeg (M.1 75 v1.toNatClampNeg) := ⟨_, rfl⟩
    have h := h M3 qM3
    refine e_to (M' := M3) rfl rfl (by rw [qM3]) ?_
    refine e_aload_n (pc := 20) g 0 dX10_keeps_20 rfl ?_
    refine e_getR (pc := 21) g 101 fl_X10_95 sh_72 rfl dX10_keeps_21 ?_
    refine e_iload_n (pc := 24) g 1 dX10_keeps_24 rfl ?_
    refine e_aload_n (pc := 25) g 0 dX10_keeps_25 rfl ?_
    refine e_getR (pc := 26) g 78 fl_X10_25 sh_72 rfl dX10_keeps_26 ?_
    refine e_iload_n (pc := 29) g 1 dX10_keeps_29 rfl ?_
    refine e_iald (pc := 30) g sh_78 o2 dX10_keeps_30 ?_
    refine e_iast (pc := 31) g sh_101 o2 dX10_keeps_31 ?_
    obtain ⟨M4, qM4⟩ : ∃ y : MM, y = ui M3 101 v1.toNatClampNeg (M3.1 78 v1.toNatClampNeg) := ⟨_, rfl⟩
    have h := h M4 qM4
    refine e_to (M' := M4) rfl rfl (by rw [qM4]) ?_
    refine e_aload_n (pc := 32) g 0 dX10_keeps_32 rfl ?_
    refine e_getR (pc := 33) g 102 fl_X10_98 sh_72 rfl dX10_keeps_33 ?_
    refine e_iload_n (pc := 36) g 1 dX10_keeps_36 rfl ?_
    refine e_aload_n (pc := 37) g 0 dX10_keeps_37 rfl ?_
    refine e_getR (pc := 38) g 79 fl_X10_28 sh_72 rfl dX10_keeps_38 ?_
    refine e_iload_n (pc := 41) g 1 dX10_keeps_41 rfl ?_
    refine e_iald (pc := 42) g sh_79 o2 dX10_keeps_42 ?_
    refine e_iast (pc := 43) g sh_102 o2 dX10_keeps_43 ?_
    obtain ⟨M5, qM5⟩ : ∃ y : MM, y = ui M4 102 v1.toNatClampNeg (M4.1 79 v1.toNatClampNeg) := ⟨_, rfl⟩
    have h := h M5 qM5
    refine e_to (M' := M5) rfl rfl (by rw [qM5]) ?_
    obtain ⟨x6, qx6⟩ : ∃ y : Int32, y = v1 + 1 := ⟨_, rfl⟩
    have h := h x6 qx6
    refine e_iinc (pc := 44) g 1 x6 [(0, .ref 72), (1, .int x6)] dX10_keeps_44 rfl (by rw [qx6]; rfl) (by decide) rfl ?_
    refine e_goto (pc := 47) g 2 dX10_keeps_47 (by decide) ?_
    exact h
/-- at the cut 2 of X10_gives -/
def At_X10_gives_2 (G : GC)  (v1 : Int32)  (M : MM) : Prop := Ev G 2 [(0, .ref 72), (1, .int v1)] [] M
set_option maxHeartbeats 4000000 in
set_option maxRecDepth 100000 in
theorem b_X10_gives_0 {G : GC} {n : Nat} {r : Option Value} {M' : MM} (g : Good G mX10_gives n) (gr : GoodR G r M') (hn : 1 ≤ n)    (M : MM) (h : At_X10_gives_2 G 0 M) : Ev G 0 [(0, .ref 72)] [] M := by
  refine e_iconst (pc := 0) g 0 dX10_gives_0 kc_0 ?_
  refine e_istore_n (pc := 1) g [(0, .ref 72), (1, .int 0)] dX10_gives_1 (by decide) rfl ?_
  exact h
set_option maxHeartbeats 4000000 in
set_option maxRecDepth 100000 in
theorem b_X10_gives_2 {G : GC} {n : Nat} {r : Option Value} {M' : MM} (g : Good G mX10_gives n) (gr : GoodR G r M') (hn : 1 ≤ n)  (v1 : Int32)  (M : MM) (h : (((6 : Int32) ≤ v1 → (r = none ∧ M' = M)) ∧ (¬ ((6 : Int32) ≤ v1) → (vp_in v1 6) ∧ (∀ M3 : MM, M3 = ui M 75 v1.toNatClampNeg (M.1 100 v1.toNatClampNeg) → (∀ M4 : MM, M4 = ui M3 78 v1.toNatClampNeg (M3.1 101 v1.toNatClampNeg) → (∀ M5 : MM, M5 = ui M4 79 v1.toNatClampNeg (M4.1 102 v1.toNatClampNeg) → (∀ x6 : Int32, x6 = v1 + 1 → At_X10_gives_2 G x6 M5))))))) : At_X10_gives_2 G v1 M := by
  unfold At_X10_gives_2
  refine e_iload_n (pc := 2) g 1 dX10_gives_2 rfl ?_
  refine e_bipush (pc := 3) g 6 dX10_gives_3 kb_6 ?_
  refine e_icmp_ge (pc := 5) g 50 dX10_gives_5 (by decide) (fun c1 => ?_) (fun c1 => ?_)
  · have h := h.1 c1
    exact e_vret (pc := 50) g gr rfl dX10_gives_50 h
  · have h := h.2 c1
    refine e_aload_n (pc := 8) g 0 dX10_gives_8 rfl ?_
    refine e_getR (pc := 9) g 75 fl_X10_16 sh_72 rfl dX10_gives_9 ?_
    refine e_iload_n (pc := 12) g 1 dX10_gives_12 rfl ?_
    refine e_aload_n (pc := 13) g 0 dX10_gives_13 rfl ?_
    refine e_getR (pc := 14) g 100 fl_X10_92 sh_72 rfl dX10_gives_14 ?_
    refine e_iload_n (pc := 17) g 1 dX10_gives_17 rfl ?_
    obtain ⟨o2, h⟩ := h
    refine e_iald (pc := 18) g sh_100 o2 dX10_gives_18 ?_
    refine e_iast (pc := 19) g sh_75 o2 dX10_gives_19 ?_
    obtain ⟨M3, qM3⟩ : ∃ y : MM, y = ui M 75 v1.toNatClampNeg (M.1 100 v1.toNatClampNeg) := ⟨_, rfl⟩
    have h := h M3 qM3
    refine e_to (M' := M3) rfl rfl (by rw [qM3]) ?_
    refine e_aload_n (pc := 20) g 0 dX10_gives_20 rfl ?_
    refine e_getR (pc := 21) g 78 fl_X10_25 sh_72 rfl dX10_gives_21 ?_
    refine e_iload_n (pc := 24) g 1 dX10_gives_24 rfl ?_
    refine e_aload_n (pc := 25) g 0 dX10_gives_25 rfl ?_
    refine e_getR (pc := 26) g 101 fl_X10_95 sh_72 rfl dX10_gives_26 ?_
    refine e_iload_n (pc := 29) g 1 dX10_gives_29 rfl ?_
    refine e_iald (pc := 30) g sh_101 o2 dX10_gives_30 ?_
    refine e_iast (pc := 31) g sh_78 o2 dX10_gives_31 ?_
    obtain ⟨M4, qM4⟩ : ∃ y : MM, y = ui M3 78 v1.toNatClampNeg (M3.1 101 v1.toNatClampNeg) := ⟨_, rfl⟩
    have h := h M4 qM4
    refine e_to (M' := M4) rfl rfl (by rw [qM4]) ?_
    refine e_aload_n (pc := 32) g 0 dX10_gives_32 rfl ?_
    refine e_getR (pc := 33) g 79 fl_X10_28 sh_72 rfl dX10_gives_33 ?_
    refine e_iload_n (pc := 36) g 1 dX10_gives_36 rfl ?_
    refine e_aload_n (pc := 37) g 0 dX10_gives_37 rfl ?_
    refine e_getR (pc := 38) g 102 fl_X10_98 sh_72 rfl dX10_gives_38 ?_
    refine e_iload_n (pc := 41) g 1 dX10_gives_41 rfl ?_
    refine e_iald (pc := 42) g sh_102 o2 dX10_gives_42 ?_
    refine e_iast (pc := 43) g sh_79 o2 dX10_gives_43 ?_
    obtain ⟨M5, qM5⟩ : ∃ y : MM, y = ui M4 79 v1.toNatClampNeg (M4.1 102 v1.toNatClampNeg) := ⟨_, rfl⟩
    have h := h M5 qM5
    refine e_to (M' := M5) rfl rfl (by rw [qM5]) ?_
    obtain ⟨x6, qx6⟩ : ∃ y : Int32, y = v1 + 1 := ⟨_, rfl⟩
    have h := h x6 qx6
    refine e_iinc (pc := 44) g 1 x6 [(0, .ref 72), (1, .int x6)] dX10_gives_44 rfl (by rw [qx6]; rfl) (by decide) rfl ?_
    refine e_goto (pc := 47) g 2 dX10_gives_47 (by decide) ?_
    exact h
/-- at the cut 2 of X10_keepsPassed -/
def At_X10_keepsPassed_2 (G : GC)  (v1 : Int32)  (M : MM) : Prop := Ev G 2 [(0, .ref 72), (1, .int v1)] [] M
set_option maxHeartbeats 4000000 in
set_option maxRecDepth 100000 in
theorem b_X10_keepsPassed_0 {G : GC} {n : Nat} {r : Option Value} {M' : MM} (g : Good G mX10_keepsPassed n) (gr : GoodR G r M') (hn : 1 ≤ n)    (M : MM) (h : At_X10_keepsPassed_2 G 0 M) : Ev G 0 [(0, .ref 72)] [] M := by
  refine e_iconst (pc := 0) g 0 dX10_keepsPassed_0 kc_0 ?_
  refine e_istore_n (pc := 1) g [(0, .ref 72), (1, .int 0)] dX10_keepsPassed_1 (by decide) rfl ?_
  exact h
set_option maxHeartbeats 4000000 in
set_option maxRecDepth 100000 in
theorem b_X10_keepsPassed_2 {G : GC} {n : Nat} {r : Option Value} {M' : MM} (g : Good G mX10_keepsPassed n) (gr : GoodR G r M') (hn : 1 ≤ n)  (v1 : Int32)  (M : MM) (h : (((4 : Int32) ≤ v1 → (r = none ∧ M' = M)) ∧ (¬ ((4 : Int32) ≤ v1) → (vp_in v1 8) ∧ (vp_in v1 16) ∧ (∀ M4 : MM, M4 = ui M 103 v1.toNatClampNeg (M.1 96 v1.toNatClampNeg) → (vp_in (4 + v1) 8) ∧ (vp_in (4 + v1) 16) ∧ (∀ M7 : MM, M7 = ui M4 103 (4 + v1).toNatClampNeg (M4.1 96 (4 + v1).toNatClampNeg) → (vp_in v1 4) ∧ (vp_in (8 + v1) 16) ∧ (∀ M10 : MM, M10 = ui M7 103 (8 + v1).toNatClampNeg (M7.1 97 v1.toNatClampNeg) → (vp_in (12 + v1) 16) ∧ (∀ M12 : MM, M12 = ui M10 103 (12 + v1).toNatClampNeg (M10.1 98 v1.toNatClampNeg) → (∀ x13 : Int32, x13 = v1 + 1 → At_X10_keepsPassed_2 G x13 M12)))))))) : At_X10_keepsPassed_2 G v1 M := by
  unfold At_X10_keepsPassed_2
  refine e_iload_n (pc := 2) g 1 dX10_keepsPassed_2 rfl ?_
  refine e_iconst (pc := 3) g 4 dX10_keepsPassed_3 kc_4 ?_
  refine e_icmp_ge (pc := 4) g 71 dX10_keepsPassed_4 (by decide) (fun c1 => ?_) (fun c1 => ?_)
  · have h := h.1 c1
    exact e_vret (pc := 71) g gr rfl dX10_keepsPassed_71 h
  · have h := h.2 c1
    refine e_aload_n (pc := 7) g 0 dX10_keepsPassed_7 rfl ?_
    refine e_getR (pc := 8) g 103 fl_X10_101 sh_72 rfl dX10_keepsPassed_8 ?_
    refine e_iload_n (pc := 11) g 1 dX10_keepsPassed_11 rfl ?_
    refine e_aload_n (pc := 12) g 0 dX10_keepsPassed_12 rfl ?_
    refine e_getR (pc := 13) g 96 fl_X10_80 sh_72 rfl dX10_keepsPassed_13 ?_
    refine e_iload_n (pc := 16) g 1 dX10_keepsPassed_16 rfl ?_
    obtain ⟨o2, h⟩ := h
    refine e_iald (pc := 17) g sh_96 o2 dX10_keepsPassed_17 ?_
    obtain ⟨o3, h⟩ := h
    refine e_iast (pc := 18) g sh_103 o3 dX10_keepsPassed_18 ?_
    obtain ⟨M4, qM4⟩ : ∃ y : MM, y = ui M 103 v1.toNatClampNeg (M.1 96 v1.toNatClampNeg) := ⟨_, rfl⟩
    have h := h M4 qM4
    refine e_to (M' := M4) rfl rfl (by rw [qM4]) ?_
    refine e_aload_n (pc := 19) g 0 dX10_keepsPassed_19 rfl ?_
    refine e_getR (pc := 20) g 103 fl_X10_101 sh_72 rfl dX10_keepsPassed_20 ?_
    refine e_iconst (pc := 23) g 4 dX10_keepsPassed_23 kc_4 ?_
    refine e_iload_n (pc := 24) g 1 dX10_keepsPassed_24 rfl ?_
    refine e_iadd (pc := 25) g dX10_keepsPassed_25 ?_
    refine e_aload_n (pc := 26) g 0 dX10_keepsPassed_26 rfl ?_
    refine e_getR (pc := 27) g 96 fl_X10_80 sh_72 rfl dX10_keepsPassed_27 ?_
    refine e_iconst (pc := 30) g 4 dX10_keepsPassed_30 kc_4 ?_
    refine e_iload_n (pc := 31) g 1 dX10_keepsPassed_31 rfl ?_
    refine e_iadd (pc := 32) g dX10_keepsPassed_32 ?_
    obtain ⟨o5, h⟩ := h
    refine e_iald (pc := 33) g sh_96 o5 dX10_keepsPassed_33 ?_
    obtain ⟨o6, h⟩ := h
    refine e_iast (pc := 34) g sh_103 o6 dX10_keepsPassed_34 ?_
    obtain ⟨M7, qM7⟩ : ∃ y : MM, y = ui M4 103 (4 + v1).toNatClampNeg (M4.1 96 (4 + v1).toNatClampNeg) := ⟨_, rfl⟩
    have h := h M7 qM7
    refine e_to (M' := M7) rfl rfl (by rw [qM7]) ?_
    refine e_aload_n (pc := 35) g 0 dX10_keepsPassed_35 rfl ?_
    refine e_getR (pc := 36) g 103 fl_X10_101 sh_72 rfl dX10_keepsPassed_36 ?_
    refine e_bipush (pc := 39) g 8 dX10_keepsPassed_39 kb_8 ?_
    refine e_iload_n (pc := 41) g 1 dX10_keepsPassed_41 rfl ?_
    refine e_iadd (pc := 42) g dX10_keepsPassed_42 ?_
    refine e_aload_n (pc := 43) g 0 dX10_keepsPassed_43 rfl ?_
    refine e_getR (pc := 44) g 97 fl_X10_83 sh_72 rfl dX10_keepsPassed_44 ?_
    refine e_iload_n (pc := 47) g 1 dX10_keepsPassed_47 rfl ?_
    obtain ⟨o8, h⟩ := h
    refine e_iald (pc := 48) g sh_97 o8 dX10_keepsPassed_48 ?_
    obtain ⟨o9, h⟩ := h
    refine e_iast (pc := 49) g sh_103 o9 dX10_keepsPassed_49 ?_
    obtain ⟨M10, qM10⟩ : ∃ y : MM, y = ui M7 103 (8 + v1).toNatClampNeg (M7.1 97 v1.toNatClampNeg) := ⟨_, rfl⟩
    have h := h M10 qM10
    refine e_to (M' := M10) rfl rfl (by rw [qM10]) ?_
    refine e_aload_n (pc := 50) g 0 dX10_keepsPassed_50 rfl ?_
    refine e_getR (pc := 51) g 103 fl_X10_101 sh_72 rfl dX10_keepsPassed_51 ?_
    refine e_bipush (pc := 54) g 12 dX10_keepsPassed_54 kb_12 ?_
    refine e_iload_n (pc := 56) g 1 dX10_keepsPassed_56 rfl ?_
    refine e_iadd (pc := 57) g dX10_keepsPassed_57 ?_
    refine e_aload_n (pc := 58) g 0 dX10_keepsPassed_58 rfl ?_
    refine e_getR (pc := 59) g 98 fl_X10_86 sh_72 rfl dX10_keepsPassed_59 ?_
    refine e_iload_n (pc := 62) g 1 dX10_keepsPassed_62 rfl ?_
    refine e_iald (pc := 63) g sh_98 o8 dX10_keepsPassed_63 ?_
    obtain ⟨o11, h⟩ := h
    refine e_iast (pc := 64) g sh_103 o11 dX10_keepsPassed_64 ?_
    obtain ⟨M12, qM12⟩ : ∃ y : MM, y = ui M10 103 (12 + v1).toNatClampNeg (M10.1 98 v1.toNatClampNeg) := ⟨_, rfl⟩
    have h := h M12 qM12
    refine e_to (M' := M12) rfl rfl (by rw [qM12]) ?_
    obtain ⟨x13, qx13⟩ : ∃ y : Int32, y = v1 + 1 := ⟨_, rfl⟩
    have h := h x13 qx13
    refine e_iinc (pc := 65) g 1 x13 [(0, .ref 72), (1, .int x13)] dX10_keepsPassed_65 rfl (by rw [qx13]; rfl) (by decide) rfl ?_
    refine e_goto (pc := 68) g 2 dX10_keepsPassed_68 (by decide) ?_
    exact h
/-- at the cut 2 of X10_givesPassed -/
def At_X10_givesPassed_2 (G : GC)  (v1 : Int32)  (M : MM) : Prop := Ev G 2 [(0, .ref 72), (1, .int v1)] [] M
set_option maxHeartbeats 4000000 in
set_option maxRecDepth 100000 in
theorem b_X10_givesPassed_0 {G : GC} {n : Nat} {r : Option Value} {M' : MM} (g : Good G mX10_givesPassed n) (gr : GoodR G r M') (hn : 1 ≤ n)    (M : MM) (h : At_X10_givesPassed_2 G 0 M) : Ev G 0 [(0, .ref 72)] [] M := by
  refine e_iconst (pc := 0) g 0 dX10_givesPassed_0 kc_0 ?_
  refine e_istore_n (pc := 1) g [(0, .ref 72), (1, .int 0)] dX10_givesPassed_1 (by decide) rfl ?_
  exact h
set_option maxHeartbeats 4000000 in
set_option maxRecDepth 100000 in
theorem b_X10_givesPassed_2 {G : GC} {n : Nat} {r : Option Value} {M' : MM} (g : Good G mX10_givesPassed n) (gr : GoodR G r M') (hn : 1 ≤ n)  (v1 : Int32)  (M : MM) (h : (((4 : Int32) ≤ v1 → (r = none ∧ M' = M)) ∧ (¬ ((4 : Int32) ≤ v1) → (vp_in v1 16) ∧ (vp_in v1 8) ∧ (∀ M4 : MM, M4 = ui M 96 v1.toNatClampNeg (M.1 103 v1.toNatClampNeg) → (vp_in (4 + v1) 16) ∧ (vp_in (4 + v1) 8) ∧ (∀ M7 : MM, M7 = ui M4 96 (4 + v1).toNatClampNeg (M4.1 103 (4 + v1).toNatClampNeg) → (vp_in (8 + v1) 16) ∧ (vp_in v1 4) ∧ (∀ M10 : MM, M10 = ui M7 97 v1.toNatClampNeg (M7.1 103 (8 + v1).toNatClampNeg) → (vp_in (12 + v1) 16) ∧ (∀ M12 : MM, M12 = ui M10 98 v1.toNatClampNeg (M10.1 103 (12 + v1).toNatClampNeg) → (∀ x13 : Int32, x13 = v1 + 1 → At_X10_givesPassed_2 G x13 M12)))))))) : At_X10_givesPassed_2 G v1 M := by
  unfold At_X10_givesPassed_2
  refine e_iload_n (pc := 2) g 1 dX10_givesPassed_2 rfl ?_
  refine e_iconst (pc := 3) g 4 dX10_givesPassed_3 kc_4 ?_
  refine e_icmp_ge (pc := 4) g 71 dX10_givesPassed_4 (by decide) (fun c1 => ?_) (fun c1 => ?_)
  · have h := h.1 c1
    exact e_vret (pc := 71) g gr rfl dX10_givesPassed_71 h
  · have h := h.2 c1
    refine e_aload_n (pc := 7) g 0 dX10_givesPassed_7 rfl ?_
    refine e_getR (pc := 8) g 96 fl_X10_80 sh_72 rfl dX10_givesPassed_8 ?_
    refine e_iload_n (pc := 11) g 1 dX10_givesPassed_11 rfl ?_
    refine e_aload_n (pc := 12) g 0 dX10_givesPassed_12 rfl ?_
    refine e_getR (pc := 13) g 103 fl_X10_101 sh_72 rfl dX10_givesPassed_13 ?_
    refine e_iload_n (pc := 16) g 1 dX10_givesPassed_16 rfl ?_
    obtain ⟨o2, h⟩ := h
    refine e_iald (pc := 17) g sh_103 o2 dX10_givesPassed_17 ?_
    obtain ⟨o3, h⟩ := h
    refine e_iast (pc := 18) g sh_96 o3 dX10_givesPassed_18 ?_
    obtain ⟨M4, qM4⟩ : ∃ y : MM, y = ui M 96 v1.toNatClampNeg (M.1 103 v1.toNatClampNeg) := ⟨_, rfl⟩
    have h := h M4 qM4
    refine e_to (M' := M4) rfl rfl (by rw [qM4]) ?_
    refine e_aload_n (pc := 19) g 0 dX10_givesPassed_19 rfl ?_
    refine e_getR (pc := 20) g 96 fl_X10_80 sh_72 rfl dX10_givesPassed_20 ?_
    refine e_iconst (pc := 23) g 4 dX10_givesPassed_23 kc_4 ?_
    refine e_iload_n (pc := 24) g 1 dX10_givesPassed_24 rfl ?_
    refine e_iadd (pc := 25) g dX10_givesPassed_25 ?_
    refine e_aload_n (pc := 26) g 0 dX10_givesPassed_26 rfl ?_
    refine e_getR (pc := 27) g 103 fl_X10_101 sh_72 rfl dX10_givesPassed_27 ?_
    refine e_iconst (pc := 30) g 4 dX10_givesPassed_30 kc_4 ?_
    refine e_iload_n (pc := 31) g 1 dX10_givesPassed_31 rfl ?_
    refine e_iadd (pc := 32) g dX10_givesPassed_32 ?_
    obtain ⟨o5, h⟩ := h
    refine e_iald (pc := 33) g sh_103 o5 dX10_givesPassed_33 ?_
    obtain ⟨o6, h⟩ := h
    refine e_iast (pc := 34) g sh_96 o6 dX10_givesPassed_34 ?_
    obtain ⟨M7, qM7⟩ : ∃ y : MM, y = ui M4 96 (4 + v1).toNatClampNeg (M4.1 103 (4 + v1).toNatClampNeg) := ⟨_, rfl⟩
    have h := h M7 qM7
    refine e_to (M' := M7) rfl rfl (by rw [qM7]) ?_
    refine e_aload_n (pc := 35) g 0 dX10_givesPassed_35 rfl ?_
    refine e_getR (pc := 36) g 97 fl_X10_83 sh_72 rfl dX10_givesPassed_36 ?_
    refine e_iload_n (pc := 39) g 1 dX10_givesPassed_39 rfl ?_
    refine e_aload_n (pc := 40) g 0 dX10_givesPassed_40 rfl ?_
    refine e_getR (pc := 41) g 103 fl_X10_101 sh_72 rfl dX10_givesPassed_41 ?_
    refine e_bipush (pc := 44) g 8 dX10_givesPassed_44 kb_8 ?_
    refine e_iload_n (pc := 46) g 1 dX10_givesPassed_46 rfl ?_
    refine e_iadd (pc := 47) g dX10_givesPassed_47 ?_
    obtain ⟨o8, h⟩ := h
    refine e_iald (pc := 48) g sh_103 o8 dX10_givesPassed_48 ?_
    obtain ⟨o9, h⟩ := h
    refine e_iast (pc := 49) g sh_97 o9 dX10_givesPassed_49 ?_
    obtain ⟨M10, qM10⟩ : ∃ y : MM, y = ui M7 97 v1.toNatClampNeg (M7.1 103 (8 + v1).toNatClampNeg) := ⟨_, rfl⟩
    have h := h M10 qM10
    refine e_to (M' := M10) rfl rfl (by rw [qM10]) ?_
    refine e_aload_n (pc := 50) g 0 dX10_givesPassed_50 rfl ?_
    refine e_getR (pc := 51) g 98 fl_X10_86 sh_72 rfl dX10_givesPassed_51 ?_
    refine e_iload_n (pc := 54) g 1 dX10_givesPassed_54 rfl ?_
    refine e_aload_n (pc := 55) g 0 dX10_givesPassed_55 rfl ?_
    refine e_getR (pc := 56) g 103 fl_X10_101 sh_72 rfl dX10_givesPassed_56 ?_
    refine e_bipush (pc := 59) g 12 dX10_givesPassed_59 kb_12 ?_
    refine e_iload_n (pc := 61) g 1 dX10_givesPassed_61 rfl ?_
    refine e_iadd (pc := 62) g dX10_givesPassed_62 ?_
    obtain ⟨o11, h⟩ := h
    refine e_iald (pc := 63) g sh_103 o11 dX10_givesPassed_63 ?_
    refine e_iast (pc := 64) g sh_98 o9 dX10_givesPassed_64 ?_
    obtain ⟨M12, qM12⟩ : ∃ y : MM, y = ui M10 98 v1.toNatClampNeg (M10.1 103 (12 + v1).toNatClampNeg) := ⟨_, rfl⟩
    have h := h M12 qM12
    refine e_to (M' := M12) rfl rfl (by rw [qM12]) ?_
    obtain ⟨x13, qx13⟩ : ∃ y : Int32, y = v1 + 1 := ⟨_, rfl⟩
    have h := h x13 qx13
    refine e_iinc (pc := 65) g 1 x13 [(0, .ref 72), (1, .int x13)] dX10_givesPassed_65 rfl (by rw [qx13]; rfl) (by decide) rfl ?_
    refine e_goto (pc := 68) g 2 dX10_givesPassed_68 (by decide) ?_
    exact h
/-- at the cut 13 of X10_breachOf -/
def At_X10_breachOf_13 (G : GC)  (v1 : Int32) (v2 : Int32) (v3 : Int64) (v5 : Int32)  (M : MM) : Prop := Ev G 13 [(0, .ref 72), (1, .int v1), (2, .int v2), (3, .long v3), (5, .int v5)] [] M
set_option maxHeartbeats 4000000 in
set_option maxRecDepth 100000 in
theorem b_X10_breachOf_0 {G : GC} {n : Nat} {r : Option Value} {M' : MM} (g : Good G mX10_breachOf n) (gr : GoodR G r M') (hn : 3 ≤ n) (a1 : Int32) (a2 : Int32)   (M : MM) (h : (∃ M1 : MM, Fn 1 mX10_keeps [.ref 72] M none M1 ∧ (∃ M3 : MM, Fn 1 mX10_keepsPassed [.ref 72] M1 none M3 ∧ At_X10_breachOf_13 G a1 a2 0 0 M3))) : Ev G 0 [(0, .ref 72), (1, .int a1), (2, .int a2)] [] M := by
  refine e_lconst (pc := 0) g 0 dX10_breachOf_0 kl_0 ?_
  refine e_lstore_n (pc := 1) g [(0, .ref 72), (1, .int a1), (2, .int a2), (3, .long 0)] dX10_breachOf_1 (by decide) rfl ?_
  refine e_aload_n (pc := 2) g 0 dX10_breachOf_2 rfl ?_
  obtain ⟨M1, f2, h⟩ := h
  refine e_callV (As := []) (S := []) (pc := 3) g ok_X10_keeps ml_X10_202 sh_72 ⟨_, rfl, rfl⟩ f2 (by omega) rfl (Nat.le_of_ble_eq_true rfl) dX10_breachOf_3 ?_
  refine e_to (S' := []) rfl rfl rfl ?_
  refine e_aload_n (pc := 6) g 0 dX10_breachOf_6 rfl ?_
  obtain ⟨M3, f4, h⟩ := h
  refine e_callV (As := []) (S := []) (pc := 7) g ok_X10_keepsPassed ml_X10_205 sh_72 ⟨_, rfl, rfl⟩ f4 (by omega) rfl (Nat.le_of_ble_eq_true rfl) dX10_breachOf_7 ?_
  refine e_to (S' := []) rfl rfl rfl ?_
  refine e_iconst (pc := 10) g 0 dX10_breachOf_10 kc_0 ?_
  refine e_istore (pc := 11) g [(0, .ref 72), (1, .int a1), (2, .int a2), (3, .long 0), (5, .int 0)] dX10_breachOf_11 (by decide) rfl ?_
  exact h
/-- at the cut 30 of X10_breachOf -/
def At_X10_breachOf_30 (G : GC)  (v1 : Int32) (v2 : Int32) (v3 : Int64) (v5 : Int32) (v6 : Int32)  (M : MM) : Prop := Ev G 30 [(0, .ref 72), (1, .int v1), (2, .int v2), (3, .long v3), (5, .int v5), (6, .int v6)] [] M
set_option maxHeartbeats 4000000 in
set_option maxRecDepth 100000 in
theorem b_X10_breachOf_13 {G : GC} {n : Nat} {r : Option Value} {M' : MM} (g : Good G mX10_breachOf n) (gr : GoodR G r M') (hn : 3 ≤ n)  (v1 : Int32) (v2 : Int32) (v3 : Int64) (v5 : Int32)  (M : MM) (h : ((v5 < ((M.1 72 32) : Int32) → At_X10_breachOf_30 G v1 v2 v3 v5 0 M) ∧ (¬ (v5 < ((M.1 72 32) : Int32)) → ((¬ v5 = (0 : Int32) → (∃ M3 : MM, Fn 1 mX10_givesPassed [.ref 72] M none M3 ∧ (r = some (.long v3) ∧ M' = M3))) ∧ (v5 = (0 : Int32) → At_X10_breachOf_30 G v1 v2 v3 v5 0 M))))) : At_X10_breachOf_13 G v1 v2 v3 v5 M := by
  unfold At_X10_breachOf_13
  refine e_iload (pc := 13) g 4 dX10_breachOf_13 rfl ?_
  refine e_aload_n (pc := 15) g 0 dX10_breachOf_15 rfl ?_
  refine e_getI (pc := 16) g fl_X10_193 sh_72 rfl dX10_breachOf_16 ?_
  refine e_icmp_lt (pc := 19) g 27 dX10_breachOf_19 (by decide) (fun c1 => ?_) (fun c1 => ?_)
  · have h := h.1 c1
    refine e_iconst (pc := 27) g 0 dX10_breachOf_27 kc_0 ?_
    refine e_istore (pc := 28) g [(0, .ref 72), (1, .int v1), (2, .int v2), (3, .long v3), (5, .int v5), (6, .int 0)] dX10_breachOf_28 (by decide) rfl ?_
    exact h
  · have h := h.2 c1
    refine e_iload (pc := 22) g 4 dX10_breachOf_22 rfl ?_
    refine e_if_ne (pc := 24) g 212 dX10_breachOf_24 (by decide) (fun c2 => ?_) (fun c2 => ?_)
    · have h := h.1 c2
      refine e_aload_n (pc := 212) g 0 dX10_breachOf_212 rfl ?_
      obtain ⟨M3, f4, h⟩ := h
      refine e_callV (As := []) (S := []) (pc := 213) g ok_X10_givesPassed ml_X10_211 sh_72 ⟨_, rfl, rfl⟩ f4 (by omega) rfl (Nat.le_of_ble_eq_true rfl) dX10_breachOf_213 ?_
      refine e_to (S' := []) rfl rfl rfl ?_
      refine e_lload_n (pc := 216) g 3 dX10_breachOf_216 rfl ?_
      exact e_lret (pc := 217) g gr rfl dX10_breachOf_217 h
    · have h := h.2 c2
      refine e_iconst (pc := 27) g 0 dX10_breachOf_27 kc_0 ?_
      refine e_istore (pc := 28) g [(0, .ref 72), (1, .int v1), (2, .int v2), (3, .long v3), (5, .int v5), (6, .int 0)] dX10_breachOf_28 (by decide) rfl ?_
      exact h
/-- at the cut 42 of X10_breachOf -/
def At_X10_breachOf_42 (G : GC)  (v1 : Int32) (v2 : Int32) (v3 : Int64) (v5 : Int32) (v6 : Int32) (v7 : Int32) (v8 : Int32)  (M : MM) : Prop := Ev G 42 [(0, .ref 72), (1, .int v1), (2, .int v2), (3, .long v3), (5, .int v5), (6, .int v6), (7, .int v7), (8, .int v8)] [] M
set_option maxHeartbeats 4000000 in
set_option maxRecDepth 100000 in
theorem b_X10_breachOf_30 {G : GC} {n : Nat} {r : Option Value} {M' : MM} (g : Good G mX10_breachOf n) (gr : GoodR G r M') (hn : 3 ≤ n)  (v1 : Int32) (v2 : Int32) (v3 : Int64) (v5 : Int32) (v6 : Int32)  (M : MM) (h : (((v1 : Int32) ≤ v6 → (∃ M2 : MM, Fn 1 mX10_gives [.ref 72] M none M2 ∧ (∀ x4 : Int32, x4 = v5 + 1 → At_X10_breachOf_13 G v1 v2 v3 x4 M2))) ∧ (¬ ((v1 : Int32) ≤ v6) → At_X10_breachOf_42 G v1 v2 v3 v5 v6 0 0 M))) : At_X10_breachOf_30 G v1 v2 v3 v5 v6 M := by
  unfold At_X10_breachOf_30
  refine e_iload (pc := 30) g 5 dX10_breachOf_30 rfl ?_
  refine e_iload_n (pc := 32) g 1 dX10_breachOf_32 rfl ?_
  refine e_icmp_ge (pc := 33) g 202 dX10_breachOf_33 (by decide) (fun c1 => ?_) (fun c1 => ?_)
  · have h := h.1 c1
    refine e_aload_n (pc := 202) g 0 dX10_breachOf_202 rfl ?_
    obtain ⟨M2, f3, h⟩ := h
    refine e_callV (As := []) (S := []) (pc := 203) g ok_X10_gives ml_X10_208 sh_72 ⟨_, rfl, rfl⟩ f3 (by omega) rfl (Nat.le_of_ble_eq_true rfl) dX10_breachOf_203 ?_
    refine e_to (S' := []) rfl rfl rfl ?_
    obtain ⟨x4, qx4⟩ : ∃ y : Int32, y = v5 + 1 := ⟨_, rfl⟩
    have h := h x4 qx4
    refine e_iinc (pc := 206) g 4 x4 [(0, .ref 72), (1, .int v1), (2, .int v2), (3, .long v3), (5, .int x4), (6, .int v6)] dX10_breachOf_206 rfl (by rw [qx4]; rfl) (by decide) rfl ?_
    refine e_goto (pc := 209) g 13 dX10_breachOf_209 (by decide) ?_
    refine e_sub [(0, .ref 72), (1, .int v1), (2, .int v2), (3, .long v3), (5, .int x4)] [0, 1, 2, 3, 4] rfl ?_
    exact h
  · have h := h.2 c1
    refine e_iconst (pc := 36) g 0 dX10_breachOf_36 kc_0 ?_
    refine e_istore (pc := 37) g [(0, .ref 72), (1, .int v1), (2, .int v2), (3, .long v3), (5, .int v5), (6, .int v6), (7, .int 0)] dX10_breachOf_37 (by decide) rfl ?_
    refine e_iconst (pc := 39) g 0 dX10_breachOf_39 kc_0 ?_
    refine e_istore (pc := 40) g [(0, .ref 72), (1, .int v1), (2, .int v2), (3, .long v3), (5, .int v5), (6, .int v6), (7, .int 0), (8, .int 0)] dX10_breachOf_40 (by decide) rfl ?_
    exact h
/-- at the cut 171 of X10_breachOf -/
def At_X10_breachOf_171 (G : GC)  (v1 : Int32) (v2 : Int32) (v3 : Int64) (v5 : Int32) (v6 : Int32) (v7 : Int32) (v8 : Int32)  (M : MM) : Prop := Ev G 171 [(0, .ref 72), (1, .int v1), (2, .int v2), (3, .long v3), (5, .int v5), (6, .int v6), (7, .int v7), (8, .int v8)] [] M
set_option maxHeartbeats 4000000 in
set_option maxRecDepth 100000 in
theorem b_X10_breachOf_42 {G : GC} {n : Nat} {r : Option Value} {M' : MM} (g : Good G mX10_breachOf n) (gr : GoodR G r M') (hn : 3 ≤ n)  (v1 : Int32) (v2 : Int32) (v3 : Int64) (v5 : Int32) (v6 : Int32) (v7 : Int32) (v8 : Int32)  (M : MM) (h : ((((M.1 72 13) : Int32) ≤ v8 → ((((M.1 72 32) : Int32) ≤ v5 → (¬ 24 = (0 : Int32)) ∧ (∃ M4 : MM, Fn 2 mX10_flows [.ref 72, .int 0, .int (((M.1 72 27) + v6) - ((M.1 72 27) + v6) / 24 * 24), .int v7] M none M4 ∧ At_X10_breachOf_171 G v1 v2 v3 v5 v6 v7 0 M4)) ∧ (¬ (((M.1 72 32) : Int32) ≤ v5) → (vp_in ((6 * v5) + v6) 18) ∧ (¬ 24 = (0 : Int32)) ∧ (∃ M8 : MM, Fn 2 mX10_flows [.ref 72, .int (M.1 99 ((6 * v5) + v6).toNatClampNeg), .int (((M.1 72 27) + v6) - ((M.1 72 27) + v6) / 24 * 24), .int v7] M none M8 ∧ At_X10_breachOf_171 G v1 v2 v3 v5 v6 v7 0 M8)))) ∧ (¬ (((M.1 72 13) : Int32) ≤ v8) → (((2 : Int32) ≤ v8 → (vp_in v8 4) ∧ (((M.1 89 v8.toNatClampNeg) = (0 : Int32) → ((0 = (0 : Int32) → (∀ x14 : Int32, x14 = (v7 ||| 0) → (∀ x15 : Int32, x15 = v8 + 1 → At_X10_breachOf_42 G v1 v2 v3 v5 v6 x14 x15 M))) ∧ (¬ (0 = (0 : Int32)) → (∀ x16 : Int32, x16 = (v7 ||| (1 <<< (v8 &&& 31))) → (∀ x17 : Int32, x17 = v8 + 1 → At_X10_breachOf_42 G v1 v2 v3 v5 v6 x16 x17 M))))) ∧ (¬ ((M.1 89 v8.toNatClampNeg) = (0 : Int32)) → (∃ (r20 : Int32) (M18 : MM), Fn 1 mX10_isPaused [.ref 72, .int v8, .int ((M.1 72 27) + v6)] M (some (.int r20)) M18 ∧ (∀ x22 : Int32, x22 = (if r20 = (0 : Int32) then 1 else 0) → ((x22 = (0 : Int32) → (∀ x24 : Int32, x24 = (v7 ||| 0) → (∀ x25 : Int32, x25 = v8 + 1 → At_X10_breachOf_42 G v1 v2 v3 v5 v6 x24 x25 M18))) ∧ (¬ (x22 = (0 : Int32)) → (∀ x26 : Int32, x26 = (v7 ||| (1 <<< (v8 &&& 31))) → (∀ x27 : Int32, x27 = v8 + 1 → At_X10_breachOf_42 G v1 v2 v3 v5 v6 x26 x27 M18))))))))) ∧ (¬ ((2 : Int32) ≤ v8) → (∃ (r30 : Int32) (M28 : MM), Fn 1 mX10_isIn [.ref 72, .int v2, .int v6, .int v8] M (some (.int r30)) M28 ∧ ((r30 = (0 : Int32) → (∀ x32 : Int32, x32 = (v7 ||| 0) → (∀ x33 : Int32, x33 = v8 + 1 → At_X10_breachOf_42 G v1 v2 v3 v5 v6 x32 x33 M28))) ∧ (¬ (r30 = (0 : Int32)) → (∀ x34 : Int32, x34 = (v7 ||| (1 <<< (v8 &&& 31))) → (∀ x35 : Int32, x35 = v8 + 1 → At_X10_breachOf_42 G v1 v2 v3 v5 v6 x34 x35 M28)))))))))) : At_X10_breachOf_42 G v1 v2 v3 v5 v6 v7 v8 M := by
  unfold At_X10_breachOf_42
  refine e_iload (pc := 42) g 7 dX10_breachOf_42 rfl ?_
  refine e_aload_n (pc := 44) g 0 dX10_breachOf_44 rfl ?_
  refine e_getI (pc := 45) g fl_X10_154 sh_72 rfl dX10_breachOf_45 ?_
  refine e_icmp_ge (pc := 48) g 126 dX10_breachOf_48 (by decide) (fun c1 => ?_) (fun c1 => ?_)
  · have h := h.1 c1
    refine e_aload_n (pc := 126) g 0 dX10_breachOf_126 rfl ?_
    refine e_iload (pc := 127) g 4 dX10_breachOf_127 rfl ?_
    refine e_aload_n (pc := 129) g 0 dX10_breachOf_129 rfl ?_
    refine e_getI (pc := 130) g fl_X10_193 sh_72 rfl dX10_breachOf_130 ?_
    refine e_icmp_ge (pc := 133) g 152 dX10_breachOf_133 (by decide) (fun c2 => ?_) (fun c2 => ?_)
    · have h := h.1 c2
      refine e_iconst (pc := 152) g 0 dX10_breachOf_152 kc_0 ?_
      refine e_aload_n (pc := 153) g 0 dX10_breachOf_153 rfl ?_
      refine e_getI (pc := 154) g fl_X10_160 sh_72 rfl dX10_breachOf_154 ?_
      refine e_iload (pc := 157) g 5 dX10_breachOf_157 rfl ?_
      refine e_iadd (pc := 159) g dX10_breachOf_159 ?_
      refine e_bipush (pc := 160) g 24 dX10_breachOf_160 kb_24 ?_
      obtain ⟨o3, h⟩ := h
      refine e_irem (pc := 162) g dX10_breachOf_162 o3 ?_
      refine e_iload (pc := 163) g 6 dX10_breachOf_163 rfl ?_
      obtain ⟨M4, f5, h⟩ := h
      refine e_callV (As := [.int 0, .int (((M.1 72 27) + v6) - ((M.1 72 27) + v6) / 24 * 24), .int v7]) (S := []) (pc := 165) g ok_X10_flows ml_X10_182 sh_72 ⟨_, rfl, rfl⟩ f5 (by omega) rfl (Nat.le_of_ble_eq_true rfl) dX10_breachOf_165 ?_
      refine e_to (S' := []) rfl rfl rfl ?_
      refine e_iconst (pc := 168) g 0 dX10_breachOf_168 kc_0 ?_
      refine e_istore (pc := 169) g [(0, .ref 72), (1, .int v1), (2, .int v2), (3, .long v3), (5, .int v5), (6, .int v6), (7, .int v7), (8, .int 0)] dX10_breachOf_169 (by decide) rfl ?_
      exact h
    · have h := h.2 c2
      refine e_aload_n (pc := 136) g 0 dX10_breachOf_136 rfl ?_
      refine e_getR (pc := 137) g 99 fl_X10_89 sh_72 rfl dX10_breachOf_137 ?_
      refine e_bipush (pc := 140) g 6 dX10_breachOf_140 kb_6 ?_
      refine e_iload (pc := 142) g 4 dX10_breachOf_142 rfl ?_
      refine e_imul (pc := 144) g dX10_breachOf_144 ?_
      refine e_iload (pc := 145) g 5 dX10_breachOf_145 rfl ?_
      refine e_iadd (pc := 147) g dX10_breachOf_147 ?_
      obtain ⟨o6, h⟩ := h
      refine e_iald (pc := 148) g sh_99 o6 dX10_breachOf_148 ?_
      refine e_goto (pc := 149) g 153 dX10_breachOf_149 (by decide) ?_
      refine e_aload_n (pc := 153) g 0 dX10_breachOf_153 rfl ?_
      refine e_getI (pc := 154) g fl_X10_160 sh_72 rfl dX10_breachOf_154 ?_
      refine e_iload (pc := 157) g 5 dX10_breachOf_157 rfl ?_
      refine e_iadd (pc := 159) g dX10_breachOf_159 ?_
      refine e_bipush (pc := 160) g 24 dX10_breachOf_160 kb_24 ?_
      obtain ⟨o7, h⟩ := h
      refine e_irem (pc := 162) g dX10_breachOf_162 o7 ?_
      refine e_iload (pc := 163) g 6 dX10_breachOf_163 rfl ?_
      obtain ⟨M8, f9, h⟩ := h
      refine e_callV (As := [.int (M.1 99 ((6 * v5) + v6).toNatClampNeg), .int (((M.1 72 27) + v6) - ((M.1 72 27) + v6) / 24 * 24), .int v7]) (S := []) (pc := 165) g ok_X10_flows ml_X10_182 sh_72 ⟨_, rfl, rfl⟩ f9 (by omega) rfl (Nat.le_of_ble_eq_true rfl) dX10_breachOf_165 ?_
      refine e_to (S' := []) rfl rfl rfl ?_
      refine e_iconst (pc := 168) g 0 dX10_breachOf_168 kc_0 ?_
      refine e_istore (pc := 169) g [(0, .ref 72), (1, .int v1), (2, .int v2), (3, .long v3), (5, .int v5), (6, .int v6), (7, .int v7), (8, .int 0)] dX10_breachOf_169 (by decide) rfl ?_
      exact h
  · have h := h.2 c1
    refine e_iload (pc := 51) g 7 dX10_breachOf_51 rfl ?_
    refine e_iconst (pc := 53) g 2 dX10_breachOf_53 kc_2 ?_
    refine e_icmp_ge (pc := 54) g 69 dX10_breachOf_54 (by decide) (fun c10 => ?_) (fun c10 => ?_)
    · have h := h.1 c10
      refine e_aload_n (pc := 69) g 0 dX10_breachOf_69 rfl ?_
      refine e_getR (pc := 70) g 89 fl_X10_58 sh_72 rfl dX10_breachOf_70 ?_
      refine e_iload (pc := 73) g 7 dX10_breachOf_73 rfl ?_
      obtain ⟨o11, h⟩ := h
      refine e_zald (pc := 75) g sh_89 o11 dX10_breachOf_75 ?_
      refine e_if_eq (pc := 76) g 99 dX10_breachOf_76 (by decide) (fun c12 => ?_) (fun c12 => ?_)
      · have h := h.1 c12
        refine e_iconst (pc := 99) g 0 dX10_breachOf_99 kc_0 ?_
        refine e_istore (pc := 100) g [(0, .ref 72), (1, .int v1), (2, .int v2), (3, .long v3), (5, .int v5), (6, .int v6), (7, .int v7), (8, .int v8), (9, .int 0)] dX10_breachOf_100 (by decide) rfl ?_
        refine e_iload (pc := 102) g 6 dX10_breachOf_102 rfl ?_
        refine e_iload (pc := 104) g 8 dX10_breachOf_104 rfl ?_
        refine e_if_eq (pc := 106) g 116 dX10_breachOf_106 (by decide) (fun c13 => ?_) (fun c13 => ?_)
        · have h := h.1 c13
          refine e_iconst (pc := 116) g 0 dX10_breachOf_116 kc_0 ?_
          refine e_ior (pc := 117) g dX10_breachOf_117 ?_
          obtain ⟨x14, qx14⟩ : ∃ y : Int32, y = (v7 ||| 0) := ⟨_, rfl⟩
          have h := h x14 qx14
          refine e_to (S' := [.int x14]) rfl (by rw [qx14]) rfl ?_
          refine e_istore (pc := 118) g [(0, .ref 72), (1, .int v1), (2, .int v2), (3, .long v3), (5, .int v5), (6, .int v6), (7, .int x14), (8, .int v8), (9, .int 0)] dX10_breachOf_118 (by decide) rfl ?_
          obtain ⟨x15, qx15⟩ : ∃ y : Int32, y = v8 + 1 := ⟨_, rfl⟩
          have h := h x15 qx15
          refine e_iinc (pc := 120) g 7 x15 [(0, .ref 72), (1, .int v1), (2, .int v2), (3, .long v3), (5, .int v5), (6, .int v6), (7, .int x14), (8, .int x15), (9, .int 0)] dX10_breachOf_120 rfl (by rw [qx15]; rfl) (by decide) rfl ?_
          refine e_goto (pc := 123) g 42 dX10_breachOf_123 (by decide) ?_
          refine e_sub [(0, .ref 72), (1, .int v1), (2, .int v2), (3, .long v3), (5, .int v5), (6, .int v6), (7, .int x14), (8, .int x15)] [0, 1, 2, 3, 4, 5, 6, 7] rfl ?_
          exact h
        · have h := h.2 c13
          refine e_iconst (pc := 109) g 1 dX10_breachOf_109 kc_1 ?_
          refine e_iload (pc := 110) g 7 dX10_breachOf_110 rfl ?_
          refine e_ishl (pc := 112) g dX10_breachOf_112 ?_
          refine e_goto (pc := 113) g 117 dX10_breachOf_113 (by decide) ?_
          refine e_ior (pc := 117) g dX10_breachOf_117 ?_
          obtain ⟨x16, qx16⟩ : ∃ y : Int32, y = (v7 ||| (1 <<< (v8 &&& 31))) := ⟨_, rfl⟩
          have h := h x16 qx16
          refine e_to (S' := [.int x16]) rfl (by rw [qx16]) rfl ?_
          refine e_istore (pc := 118) g [(0, .ref 72), (1, .int v1), (2, .int v2), (3, .long v3), (5, .int v5), (6, .int v6), (7, .int x16), (8, .int v8), (9, .int 0)] dX10_breachOf_118 (by decide) rfl ?_
          obtain ⟨x17, qx17⟩ : ∃ y : Int32, y = v8 + 1 := ⟨_, rfl⟩
          have h := h x17 qx17
          refine e_iinc (pc := 120) g 7 x17 [(0, .ref 72), (1, .int v1), (2, .int v2), (3, .long v3), (5, .int v5), (6, .int v6), (7, .int x16), (8, .int x17), (9, .int 0)] dX10_breachOf_120 rfl (by rw [qx17]; rfl) (by decide) rfl ?_
          refine e_goto (pc := 123) g 42 dX10_breachOf_123 (by decide) ?_
          refine e_sub [(0, .ref 72), (1, .int v1), (2, .int v2), (3, .long v3), (5, .int v5), (6, .int v6), (7, .int x16), (8, .int x17)] [0, 1, 2, 3, 4, 5, 6, 7] rfl ?_
          exact h
      · have h := h.2 c12
        refine e_aload_n (pc := 79) g 0 dX10_breachOf_79 rfl ?_
        refine e_iload (pc := 80) g 7 dX10_breachOf_80 rfl ?_
        refine e_aload_n (pc := 82) g 0 dX10_breachOf_82 rfl ?_
        refine e_getI (pc := 83) g fl_X10_160 sh_72 rfl dX10_breachOf_83 ?_
        refine e_iload (pc := 86) g 5 dX10_breachOf_86 rfl ?_
        refine e_iadd (pc := 88) g dX10_breachOf_88 ?_
        obtain ⟨r20, M18, f19, h⟩ := h
        refine e_callV (As := [.int v8, .int ((M.1 72 27) + v6)]) (S := []) (pc := 89) g ok_X10_isPaused ml_X10_163 sh_72 ⟨_, rfl, rfl⟩ f19 (by omega) rfl (Nat.le_of_ble_eq_true rfl) dX10_breachOf_89 ?_
        refine e_to (S' := [.int r20]) rfl rfl rfl ?_
        have hj : Ev G 100 [(0, .ref 72), (1, .int v1), (2, .int v2), (3, .long v3), (5, .int v5), (6, .int v6), (7, .int v7), (8, .int v8)] [.int (if r20 = (0 : Int32) then 1 else 0)] M18 := by
          obtain ⟨x22, qx22⟩ : ∃ y : Int32, y = (if r20 = (0 : Int32) then 1 else 0) := ⟨_, rfl⟩
          have h := h x22 qx22
          refine e_to (S' := [.int x22]) rfl (by rw [qx22]) rfl ?_
          refine e_istore (pc := 100) g [(0, .ref 72), (1, .int v1), (2, .int v2), (3, .long v3), (5, .int v5), (6, .int v6), (7, .int v7), (8, .int v8), (9, .int x22)] dX10_breachOf_100 (by decide) rfl ?_
          refine e_iload (pc := 102) g 6 dX10_breachOf_102 rfl ?_
          refine e_iload (pc := 104) g 8 dX10_breachOf_104 rfl ?_
          refine e_if_eq (pc := 106) g 116 dX10_breachOf_106 (by decide) (fun c23 => ?_) (fun c23 => ?_)
          · have h := h.1 c23
            refine e_iconst (pc := 116) g 0 dX10_breachOf_116 kc_0 ?_
            refine e_ior (pc := 117) g dX10_breachOf_117 ?_
            obtain ⟨x24, qx24⟩ : ∃ y : Int32, y = (v7 ||| 0) := ⟨_, rfl⟩
            have h := h x24 qx24
            refine e_to (S' := [.int x24]) rfl (by rw [qx24]) rfl ?_
            refine e_istore (pc := 118) g [(0, .ref 72), (1, .int v1), (2, .int v2), (3, .long v3), (5, .int v5), (6, .int v6), (7, .int x24), (8, .int v8), (9, .int x22)] dX10_breachOf_118 (by decide) rfl ?_
            obtain ⟨x25, qx25⟩ : ∃ y : Int32, y = v8 + 1 := ⟨_, rfl⟩
            have h := h x25 qx25
            refine e_iinc (pc := 120) g 7 x25 [(0, .ref 72), (1, .int v1), (2, .int v2), (3, .long v3), (5, .int v5), (6, .int v6), (7, .int x24), (8, .int x25), (9, .int x22)] dX10_breachOf_120 rfl (by rw [qx25]; rfl) (by decide) rfl ?_
            refine e_goto (pc := 123) g 42 dX10_breachOf_123 (by decide) ?_
            refine e_sub [(0, .ref 72), (1, .int v1), (2, .int v2), (3, .long v3), (5, .int v5), (6, .int v6), (7, .int x24), (8, .int x25)] [0, 1, 2, 3, 4, 5, 6, 7] rfl ?_
            exact h
          · have h := h.2 c23
            refine e_iconst (pc := 109) g 1 dX10_breachOf_109 kc_1 ?_
            refine e_iload (pc := 110) g 7 dX10_breachOf_110 rfl ?_
            refine e_ishl (pc := 112) g dX10_breachOf_112 ?_
            refine e_goto (pc := 113) g 117 dX10_breachOf_113 (by decide) ?_
            refine e_ior (pc := 117) g dX10_breachOf_117 ?_
            obtain ⟨x26, qx26⟩ : ∃ y : Int32, y = (v7 ||| (1 <<< (v8 &&& 31))) := ⟨_, rfl⟩
            have h := h x26 qx26
            refine e_to (S' := [.int x26]) rfl (by rw [qx26]) rfl ?_
            refine e_istore (pc := 118) g [(0, .ref 72), (1, .int v1), (2, .int v2), (3, .long v3), (5, .int v5), (6, .int v6), (7, .int x26), (8, .int v8), (9, .int x22)] dX10_breachOf_118 (by decide) rfl ?_
            obtain ⟨x27, qx27⟩ : ∃ y : Int32, y = v8 + 1 := ⟨_, rfl⟩
            have h := h x27 qx27
            refine e_iinc (pc := 120) g 7 x27 [(0, .ref 72), (1, .int v1), (2, .int v2), (3, .long v3), (5, .int v5), (6, .int v6), (7, .int x26), (8, .int x27), (9, .int x22)] dX10_breachOf_120 rfl (by rw [qx27]; rfl) (by decide) rfl ?_
            refine e_goto (pc := 123) g 42 dX10_breachOf_123 (by decide) ?_
            refine e_sub [(0, .ref 72), (1, .int v1), (2, .int v2), (3, .long v3), (5, .int v5), (6, .int v6), (7, .int x26), (8, .int x27)] [0, 1, 2, 3, 4, 5, 6, 7] rfl ?_
            exact h
        refine e_if_ne (pc := 92) g 99 dX10_breachOf_92 (by decide) (fun c21 => ?_) (fun c21 => ?_)
        · rw [if_neg c21] at hj
          refine e_iconst (pc := 99) g 0 dX10_breachOf_99 kc_0 ?_
          exact hj
        · rw [if_pos c21] at hj
          refine e_iconst (pc := 95) g 1 dX10_breachOf_95 kc_1 ?_
          refine e_goto (pc := 96) g 100 dX10_breachOf_96 (by decide) ?_
          exact hj
    · have h := h.2 c10
      refine e_aload_n (pc := 57) g 0 dX10_breachOf_57 rfl ?_
      refine e_iload_n (pc := 58) g 2 dX10_breachOf_58 rfl ?_
      refine e_iload (pc := 59) g 5 dX10_breachOf_59 rfl ?_
      refine e_iload (pc := 61) g 7 dX10_breachOf_61 rfl ?_
      obtain ⟨r30, M28, f29, h⟩ := h
      refine e_callV (As := [.int v2, .int v6, .int v8]) (S := []) (pc := 63) g ok_X10_isIn ml_X10_198 sh_72 ⟨_, rfl, rfl⟩ f29 (by omega) rfl (Nat.le_of_ble_eq_true rfl) dX10_breachOf_63 ?_
      refine e_to (S' := [.int r30]) rfl rfl rfl ?_
      refine e_goto (pc := 66) g 100 dX10_breachOf_66 (by decide) ?_
      refine e_istore (pc := 100) g [(0, .ref 72), (1, .int v1), (2, .int v2), (3, .long v3), (5, .int v5), (6, .int v6), (7, .int v7), (8, .int v8), (9, .int r30)] dX10_breachOf_100 (by decide) rfl ?_
      refine e_iload (pc := 102) g 6 dX10_breachOf_102 rfl ?_
      refine e_iload (pc := 104) g 8 dX10_breachOf_104 rfl ?_
      refine e_if_eq (pc := 106) g 116 dX10_breachOf_106 (by decide) (fun c31 => ?_) (fun c31 => ?_)
      · have h := h.1 c31
        refine e_iconst (pc := 116) g 0 dX10_breachOf_116 kc_0 ?_
        refine e_ior (pc := 117) g dX10_breachOf_117 ?_
        obtain ⟨x32, qx32⟩ : ∃ y : Int32, y = (v7 ||| 0) := ⟨_, rfl⟩
        have h := h x32 qx32
        refine e_to (S' := [.int x32]) rfl (by rw [qx32]) rfl ?_
        refine e_istore (pc := 118) g [(0, .ref 72), (1, .int v1), (2, .int v2), (3, .long v3), (5, .int v5), (6, .int v6), (7, .int x32), (8, .int v8), (9, .int r30)] dX10_breachOf_118 (by decide) rfl ?_
        obtain ⟨x33, qx33⟩ : ∃ y : Int32, y = v8 + 1 := ⟨_, rfl⟩
        have h := h x33 qx33
        refine e_iinc (pc := 120) g 7 x33 [(0, .ref 72), (1, .int v1), (2, .int v2), (3, .long v3), (5, .int v5), (6, .int v6), (7, .int x32), (8, .int x33), (9, .int r30)] dX10_breachOf_120 rfl (by rw [qx33]; rfl) (by decide) rfl ?_
        refine e_goto (pc := 123) g 42 dX10_breachOf_123 (by decide) ?_
        refine e_sub [(0, .ref 72), (1, .int v1), (2, .int v2), (3, .long v3), (5, .int v5), (6, .int v6), (7, .int x32), (8, .int x33)] [0, 1, 2, 3, 4, 5, 6, 7] rfl ?_
        exact h
      · have h := h.2 c31
        refine e_iconst (pc := 109) g 1 dX10_breachOf_109 kc_1 ?_
        refine e_iload (pc := 110) g 7 dX10_breachOf_110 rfl ?_
        refine e_ishl (pc := 112) g dX10_breachOf_112 ?_
        refine e_goto (pc := 113) g 117 dX10_breachOf_113 (by decide) ?_
        refine e_ior (pc := 117) g dX10_breachOf_117 ?_
        obtain ⟨x34, qx34⟩ : ∃ y : Int32, y = (v7 ||| (1 <<< (v8 &&& 31))) := ⟨_, rfl⟩
        have h := h x34 qx34
        refine e_to (S' := [.int x34]) rfl (by rw [qx34]) rfl ?_
        refine e_istore (pc := 118) g [(0, .ref 72), (1, .int v1), (2, .int v2), (3, .long v3), (5, .int v5), (6, .int v6), (7, .int x34), (8, .int v8), (9, .int r30)] dX10_breachOf_118 (by decide) rfl ?_
        obtain ⟨x35, qx35⟩ : ∃ y : Int32, y = v8 + 1 := ⟨_, rfl⟩
        have h := h x35 qx35
        refine e_iinc (pc := 120) g 7 x35 [(0, .ref 72), (1, .int v1), (2, .int v2), (3, .long v3), (5, .int v5), (6, .int v6), (7, .int x34), (8, .int x35), (9, .int r30)] dX10_breachOf_120 rfl (by rw [qx35]; rfl) (by decide) rfl ?_
        refine e_goto (pc := 123) g 42 dX10_breachOf_123 (by decide) ?_
        refine e_sub [(0, .ref 72), (1, .int v1), (2, .int v2), (3, .long v3), (5, .int v5), (6, .int v6), (7, .int x34), (8, .int x35)] [0, 1, 2, 3, 4, 5, 6, 7] rfl ?_
        exact h
set_option maxHeartbeats 4000000 in
set_option maxRecDepth 100000 in
theorem b_X10_breachOf_171 {G : GC} {n : Nat} {r : Option Value} {M' : MM} (g : Good G mX10_breachOf n) (gr : GoodR G r M') (hn : 3 ≤ n)  (v1 : Int32) (v2 : Int32) (v3 : Int64) (v5 : Int32) (v6 : Int32) (v7 : Int32) (v8 : Int32)  (M : MM) (h : ((((M.1 72 0) : Int32) ≤ v8 → (∀ x2 : Int32, x2 = v6 + 1 → At_X10_breachOf_30 G v1 v2 v3 v5 x2 M)) ∧ (¬ (((M.1 72 0) : Int32) ≤ v8) → (∃ (r5 : Int32) (M3 : MM), Fn 2 mX10_breach [.ref 72, .int v8] M (some (.int r5)) M3 ∧ (∀ x6 : Int64, x6 = (v3 + (r5.toInt64)) → (∀ x7 : Int32, x7 = v8 + 1 → At_X10_breachOf_171 G v1 v2 x6 v5 v6 v7 x7 M3)))))) : At_X10_breachOf_171 G v1 v2 v3 v5 v6 v7 v8 M := by
  unfold At_X10_breachOf_171
  refine e_iload (pc := 171) g 7 dX10_breachOf_171 rfl ?_
  refine e_aload_n (pc := 173) g 0 dX10_breachOf_173 rfl ?_
  refine e_getI (pc := 174) g fl_X10_113 sh_72 rfl dX10_breachOf_174 ?_
  refine e_icmp_ge (pc := 177) g 196 dX10_breachOf_177 (by decide) (fun c1 => ?_) (fun c1 => ?_)
  · have h := h.1 c1
    obtain ⟨x2, qx2⟩ : ∃ y : Int32, y = v6 + 1 := ⟨_, rfl⟩
    have h := h x2 qx2
    refine e_iinc (pc := 196) g 5 x2 [(0, .ref 72), (1, .int v1), (2, .int v2), (3, .long v3), (5, .int v5), (6, .int x2), (7, .int v7), (8, .int v8)] dX10_breachOf_196 rfl (by rw [qx2]; rfl) (by decide) rfl ?_
    refine e_goto (pc := 199) g 30 dX10_breachOf_199 (by decide) ?_
    refine e_sub [(0, .ref 72), (1, .int v1), (2, .int v2), (3, .long v3), (5, .int v5), (6, .int x2)] [0, 1, 2, 3, 4, 5] rfl ?_
    exact h
  · have h := h.2 c1
    refine e_lload_n (pc := 180) g 3 dX10_breachOf_180 rfl ?_
    refine e_aload_n (pc := 181) g 0 dX10_breachOf_181 rfl ?_
    refine e_iload (pc := 182) g 7 dX10_breachOf_182 rfl ?_
    obtain ⟨r5, M3, f4, h⟩ := h
    refine e_callV (As := [.int v8]) (S := [.long v3]) (pc := 184) g ok_X10_breach ml_X10_144 sh_72 ⟨_, rfl, rfl⟩ f4 (by omega) rfl (Nat.le_of_ble_eq_true rfl) dX10_breachOf_184 ?_
    refine e_to (S' := [.int r5, .long v3]) rfl rfl rfl ?_
    refine e_i2l (pc := 187) g dX10_breachOf_187 ?_
    refine e_ladd (pc := 188) g dX10_breachOf_188 ?_
    obtain ⟨x6, qx6⟩ : ∃ y : Int64, y = (v3 + (r5.toInt64)) := ⟨_, rfl⟩
    have h := h x6 qx6
    refine e_to (S' := [.long x6]) rfl (by rw [qx6]) rfl ?_
    refine e_lstore_n (pc := 189) g [(0, .ref 72), (1, .int v1), (2, .int v2), (3, .long x6), (5, .int v5), (6, .int v6), (7, .int v7), (8, .int v8)] dX10_breachOf_189 (by decide) rfl ?_
    obtain ⟨x7, qx7⟩ : ∃ y : Int32, y = v8 + 1 := ⟨_, rfl⟩
    have h := h x7 qx7
    refine e_iinc (pc := 190) g 7 x7 [(0, .ref 72), (1, .int v1), (2, .int v2), (3, .long x6), (5, .int v5), (6, .int v6), (7, .int v7), (8, .int x7)] dX10_breachOf_190 rfl (by rw [qx7]; rfl) (by decide) rfl ?_
    refine e_goto (pc := 193) g 171 dX10_breachOf_193 (by decide) ?_
    exact h
/-- at the cut 38 of X10_isPlan -/
def At_X10_isPlan_38 (G : GC)  (v1 : Int32) (v2 : Int32) (v3 : Int32) (v4 : Int32)  (M : MM) : Prop := Ev G 38 [(0, .ref 72), (1, .int v1), (2, .int v2), (3, .int v3), (4, .int v4)] [] M
set_option maxHeartbeats 4000000 in
set_option maxRecDepth 100000 in
theorem b_X10_isPlan_0 {G : GC} {n : Nat} {r : Option Value} {M' : MM} (g : Good G mX10_isPlan n) (gr : GoodR G r M') (hn : 2 ≤ n) (a1 : Int32) (a2 : Int32)   (M : MM) (h : (∃ (r3 : Int32) (M1 : MM), Fn 1 mX10_in [.long (a1.toInt64), .long 1, .long 6] M (some (.int r3)) M1 ∧ ((r3 = (0 : Int32) → At_X10_isPlan_38 G a1 a2 0 0 M1) ∧ (¬ (r3 = (0 : Int32)) → (∃ (r7 : Int32) (M5 : MM), Fn 1 mX10_in [.long (a2.toInt64), .long 0, .long (((1 <<< ((2 * a1) &&& 31)) - 1).toInt64)] M1 (some (.int r7)) M5 ∧ (∀ x9 : Int32, x9 = (if r7 = (0 : Int32) then 0 else 1) → At_X10_isPlan_38 G a1 a2 x9 0 M5)))))) : Ev G 0 [(0, .ref 72), (1, .int a1), (2, .int a2)] [] M := by
  refine e_iload_n (pc := 0) g 1 dX10_isPlan_0 rfl ?_
  refine e_i2l (pc := 1) g dX10_isPlan_1 ?_
  refine e_lconst (pc := 2) g 1 dX10_isPlan_2 kl_1 ?_
  refine e_ldc2 (pc := 3) g 6 kl_X10_150 dX10_isPlan_3 ?_
  obtain ⟨r3, M1, f2, h⟩ := h
  refine e_callS (As := [.long (a1.toInt64), .long 1, .long 6]) (S := []) (pc := 6) g ok_X10_in ml_X10_117 f2 (by omega) rfl (Nat.le_of_ble_eq_true rfl) dX10_isPlan_6 ?_
  refine e_to (S' := [.int r3]) rfl rfl rfl ?_
  refine e_if_eq (pc := 9) g 33 dX10_isPlan_9 (by decide) (fun c4 => ?_) (fun c4 => ?_)
  · have h := h.1 c4
    refine e_iconst (pc := 33) g 0 dX10_isPlan_33 kc_0 ?_
    refine e_istore_n (pc := 34) g [(0, .ref 72), (1, .int a1), (2, .int a2), (3, .int 0)] dX10_isPlan_34 (by decide) rfl ?_
    refine e_iconst (pc := 35) g 0 dX10_isPlan_35 kc_0 ?_
    refine e_istore (pc := 36) g [(0, .ref 72), (1, .int a1), (2, .int a2), (3, .int 0), (4, .int 0)] dX10_isPlan_36 (by decide) rfl ?_
    exact h
  · have h := h.2 c4
    refine e_iload_n (pc := 12) g 2 dX10_isPlan_12 rfl ?_
    refine e_i2l (pc := 13) g dX10_isPlan_13 ?_
    refine e_lconst (pc := 14) g 0 dX10_isPlan_14 kl_0 ?_
    refine e_iconst (pc := 15) g 1 dX10_isPlan_15 kc_1 ?_
    refine e_iconst (pc := 16) g 2 dX10_isPlan_16 kc_2 ?_
    refine e_iload_n (pc := 17) g 1 dX10_isPlan_17 rfl ?_
    refine e_imul (pc := 18) g dX10_isPlan_18 ?_
    refine e_ishl (pc := 19) g dX10_isPlan_19 ?_
    refine e_iconst (pc := 20) g 1 dX10_isPlan_20 kc_1 ?_
    refine e_isub (pc := 21) g dX10_isPlan_21 ?_
    refine e_i2l (pc := 22) g dX10_isPlan_22 ?_
    obtain ⟨r7, M5, f6, h⟩ := h
    refine e_callS (As := [.long (a2.toInt64), .long 0, .long (((1 <<< ((2 * a1) &&& 31)) - 1).toInt64)]) (S := []) (pc := 23) g ok_X10_in ml_X10_117 f6 (by omega) rfl (Nat.le_of_ble_eq_true rfl) dX10_isPlan_23 ?_
    refine e_to (S' := [.int r7]) rfl rfl rfl ?_
    have hj : Ev G 34 [(0, .ref 72), (1, .int a1), (2, .int a2)] [.int (if r7 = (0 : Int32) then 0 else 1)] M5 := by
      obtain ⟨x9, qx9⟩ : ∃ y : Int32, y = (if r7 = (0 : Int32) then 0 else 1) := ⟨_, rfl⟩
      have h := h x9 qx9
      refine e_to (S' := [.int x9]) rfl (by rw [qx9]) rfl ?_
      refine e_istore_n (pc := 34) g [(0, .ref 72), (1, .int a1), (2, .int a2), (3, .int x9)] dX10_isPlan_34 (by decide) rfl ?_
      refine e_iconst (pc := 35) g 0 dX10_isPlan_35 kc_0 ?_
      refine e_istore (pc := 36) g [(0, .ref 72), (1, .int a1), (2, .int a2), (3, .int x9), (4, .int 0)] dX10_isPlan_36 (by decide) rfl ?_
      exact h
    refine e_if_eq (pc := 26) g 33 dX10_isPlan_26 (by decide) (fun c8 => ?_) (fun c8 => ?_)
    · rw [if_pos c8] at hj
      refine e_iconst (pc := 33) g 0 dX10_isPlan_33 kc_0 ?_
      exact hj
    · rw [if_neg c8] at hj
      refine e_iconst (pc := 29) g 1 dX10_isPlan_29 kc_1 ?_
      refine e_goto (pc := 30) g 34 dX10_isPlan_30 (by decide) ?_
      exact hj
/-- at the cut 54 of X10_isPlan -/
def At_X10_isPlan_54 (G : GC)  (v1 : Int32) (v2 : Int32) (v3 : Int32) (v4 : Int32) (v5 : Int32)  (M : MM) : Prop := Ev G 54 [(0, .ref 72), (1, .int v1), (2, .int v2), (3, .int v3), (4, .int v4), (5, .int v5)] [] M
set_option maxHeartbeats 4000000 in
set_option maxRecDepth 100000 in
theorem b_X10_isPlan_38 {G : GC} {n : Nat} {r : Option Value} {M' : MM} (g : Good G mX10_isPlan n) (gr : GoodR G r M') (hn : 2 ≤ n)  (v1 : Int32) (v2 : Int32) (v3 : Int32) (v4 : Int32)  (M : MM) (h : (((v1 : Int32) ≤ v4 → (v3 = (0 : Int32) ∨ v3 = (1 : Int32)) ∧ (r = some (.int v3) ∧ M' = M)) ∧ (¬ ((v1 : Int32) ≤ v4) → ((v3 = (0 : Int32) → (v3 = (0 : Int32) ∨ v3 = (1 : Int32)) ∧ (r = some (.int v3) ∧ M' = M)) ∧ (¬ (v3 = (0 : Int32)) → (∀ x5 : Int32, x5 = (M.1 72 13) → At_X10_isPlan_54 G v1 v2 v3 v4 x5 M)))))) : At_X10_isPlan_38 G v1 v2 v3 v4 M := by
  unfold At_X10_isPlan_38
  refine e_iload (pc := 38) g 4 dX10_isPlan_38 rfl ?_
  refine e_iload_n (pc := 40) g 1 dX10_isPlan_40 rfl ?_
  refine e_icmp_ge (pc := 41) g 94 dX10_isPlan_41 (by decide) (fun c1 => ?_) (fun c1 => ?_)
  · have h := h.1 c1
    refine e_iload_n (pc := 94) g 3 dX10_isPlan_94 rfl ?_
    obtain ⟨o2, h⟩ := h
    exact e_zret (pc := 95) g gr rfl o2 dX10_isPlan_95 h
  · have h := h.2 c1
    refine e_iload_n (pc := 44) g 3 dX10_isPlan_44 rfl ?_
    refine e_if_eq (pc := 45) g 94 dX10_isPlan_45 (by decide) (fun c3 => ?_) (fun c3 => ?_)
    · have h := h.1 c3
      refine e_iload_n (pc := 94) g 3 dX10_isPlan_94 rfl ?_
      obtain ⟨o4, h⟩ := h
      exact e_zret (pc := 95) g gr rfl o4 dX10_isPlan_95 h
    · have h := h.2 c3
      refine e_aload_n (pc := 48) g 0 dX10_isPlan_48 rfl ?_
      refine e_getI (pc := 49) g fl_X10_154 sh_72 rfl dX10_isPlan_49 ?_
      obtain ⟨x5, qx5⟩ : ∃ y : Int32, y = (M.1 72 13) := ⟨_, rfl⟩
      have h := h x5 qx5
      refine e_to (S' := [.int x5]) rfl (by rw [qx5]) rfl ?_
      refine e_istore (pc := 52) g [(0, .ref 72), (1, .int v1), (2, .int v2), (3, .int v3), (4, .int v4), (5, .int x5)] dX10_isPlan_52 (by decide) rfl ?_
      exact h
set_option maxHeartbeats 4000000 in
set_option maxRecDepth 100000 in
theorem b_X10_isPlan_54 {G : GC} {n : Nat} {r : Option Value} {M' : MM} (g : Good G mX10_isPlan n) (gr : GoodR G r M') (hn : 2 ≤ n)  (v1 : Int32) (v2 : Int32) (v3 : Int32) (v4 : Int32) (v5 : Int32)  (M : MM) (h : (((2 : Int32) ≤ v5 → (∀ x2 : Int32, x2 = v4 + 1 → At_X10_isPlan_38 G v1 v2 v3 x2 M)) ∧ (¬ ((2 : Int32) ≤ v5) → ((v3 = (0 : Int32) → (∀ x4 : Int32, x4 = v5 + 1 → At_X10_isPlan_54 G v1 v2 0 v4 x4 M)) ∧ (¬ (v3 = (0 : Int32)) → (∃ (r7 : Int32) (M5 : MM), Fn 1 mX10_isIn [.ref 72, .int v2, .int v4, .int v5] M (some (.int r7)) M5 ∧ (∀ x9 : Int32, x9 = (if r7 = (0 : Int32) then 1 else 0) → (∀ x10 : Int32, x10 = v5 + 1 → At_X10_isPlan_54 G v1 v2 x9 v4 x10 M5)))))))) : At_X10_isPlan_54 G v1 v2 v3 v4 v5 M := by
  unfold At_X10_isPlan_54
  refine e_iload (pc := 54) g 5 dX10_isPlan_54 rfl ?_
  refine e_iconst (pc := 56) g 2 dX10_isPlan_56 kc_2 ?_
  refine e_icmp_ge (pc := 57) g 88 dX10_isPlan_57 (by decide) (fun c1 => ?_) (fun c1 => ?_)
  · have h := h.1 c1
    obtain ⟨x2, qx2⟩ : ∃ y : Int32, y = v4 + 1 := ⟨_, rfl⟩
    have h := h x2 qx2
    refine e_iinc (pc := 88) g 4 x2 [(0, .ref 72), (1, .int v1), (2, .int v2), (3, .int v3), (4, .int x2), (5, .int v5)] dX10_isPlan_88 rfl (by rw [qx2]; rfl) (by decide) rfl ?_
    refine e_goto (pc := 91) g 38 dX10_isPlan_91 (by decide) ?_
    refine e_sub [(0, .ref 72), (1, .int v1), (2, .int v2), (3, .int v3), (4, .int x2)] [0, 1, 2, 3, 4] rfl ?_
    exact h
  · have h := h.2 c1
    refine e_iload_n (pc := 60) g 3 dX10_isPlan_60 rfl ?_
    refine e_if_eq (pc := 61) g 80 dX10_isPlan_61 (by decide) (fun c3 => ?_) (fun c3 => ?_)
    · have h := h.1 c3
      refine e_iconst (pc := 80) g 0 dX10_isPlan_80 kc_0 ?_
      refine e_istore_n (pc := 81) g [(0, .ref 72), (1, .int v1), (2, .int v2), (3, .int 0), (4, .int v4), (5, .int v5)] dX10_isPlan_81 (by decide) rfl ?_
      obtain ⟨x4, qx4⟩ : ∃ y : Int32, y = v5 + 1 := ⟨_, rfl⟩
      have h := h x4 qx4
      refine e_iinc (pc := 82) g 5 x4 [(0, .ref 72), (1, .int v1), (2, .int v2), (3, .int 0), (4, .int v4), (5, .int x4)] dX10_isPlan_82 rfl (by rw [qx4]; rfl) (by decide) rfl ?_
      refine e_goto (pc := 85) g 54 dX10_isPlan_85 (by decide) ?_
      exact h
    · have h := h.2 c3
      refine e_aload_n (pc := 64) g 0 dX10_isPlan_64 rfl ?_
      refine e_iload_n (pc := 65) g 2 dX10_isPlan_65 rfl ?_
      refine e_iload (pc := 66) g 4 dX10_isPlan_66 rfl ?_
      refine e_iload (pc := 68) g 5 dX10_isPlan_68 rfl ?_
      obtain ⟨r7, M5, f6, h⟩ := h
      refine e_callV (As := [.int v2, .int v4, .int v5]) (S := []) (pc := 70) g ok_X10_isIn ml_X10_198 sh_72 ⟨_, rfl, rfl⟩ f6 (by omega) rfl (Nat.le_of_ble_eq_true rfl) dX10_isPlan_70 ?_
      refine e_to (S' := [.int r7]) rfl rfl rfl ?_
      have hj : Ev G 81 [(0, .ref 72), (1, .int v1), (2, .int v2), (3, .int v3), (4, .int v4), (5, .int v5)] [.int (if r7 = (0 : Int32) then 1 else 0)] M5 := by
        obtain ⟨x9, qx9⟩ : ∃ y : Int32, y = (if r7 = (0 : Int32) then 1 else 0) := ⟨_, rfl⟩
        have h := h x9 qx9
        refine e_to (S' := [.int x9]) rfl (by rw [qx9]) rfl ?_
        refine e_istore_n (pc := 81) g [(0, .ref 72), (1, .int v1), (2, .int v2), (3, .int x9), (4, .int v4), (5, .int v5)] dX10_isPlan_81 (by decide) rfl ?_
        obtain ⟨x10, qx10⟩ : ∃ y : Int32, y = v5 + 1 := ⟨_, rfl⟩
        have h := h x10 qx10
        refine e_iinc (pc := 82) g 5 x10 [(0, .ref 72), (1, .int v1), (2, .int v2), (3, .int x9), (4, .int v4), (5, .int x10)] dX10_isPlan_82 rfl (by rw [qx10]; rfl) (by decide) rfl ?_
        refine e_goto (pc := 85) g 54 dX10_isPlan_85 (by decide) ?_
        exact h
      refine e_if_ne (pc := 73) g 80 dX10_isPlan_73 (by decide) (fun c8 => ?_) (fun c8 => ?_)
      · rw [if_neg c8] at hj
        refine e_iconst (pc := 80) g 0 dX10_isPlan_80 kc_0 ?_
        exact hj
      · rw [if_pos c8] at hj
        refine e_iconst (pc := 76) g 1 dX10_isPlan_76 kc_1 ?_
        refine e_goto (pc := 77) g 81 dX10_isPlan_77 (by decide) ?_
        exact hj
/-- at the cut 8 of X10_findPlan -/
def At_X10_findPlan_8 (G : GC)  (v1 : Int32) (v2 : Int32)  (M : MM) : Prop := Ev G 8 [(0, .ref 72), (1, .int v1), (2, .int v2)] [] M
set_option maxHeartbeats 4000000 in
set_option maxRecDepth 100000 in
theorem b_X10_findPlan_0 {G : GC} {n : Nat} {r : Option Value} {M' : MM} (g : Good G mX10_findPlan n) (gr : GoodR G r M') (hn : 4 ≤ n) (a1 : Int32)   (M : MM) (h : (∀ M1 : MM, M1 = ui M 72 38 (-4) → At_X10_findPlan_8 G a1 0 M1)) : Ev G 0 [(0, .ref 72), (1, .int a1)] [] M := by
  refine e_aload_n (pc := 0) g 0 dX10_findPlan_0 rfl ?_
  refine e_bipush (pc := 1) g (-4) dX10_findPlan_1 kb_m4 ?_
  refine e_putI (pc := 3) g fw_X10_214 sh_72 rfl dX10_findPlan_3 ?_
  obtain ⟨M1, qM1⟩ : ∃ y : MM, y = ui M 72 38 (-4) := ⟨_, rfl⟩
  have h := h M1 qM1
  refine e_to (M' := M1) rfl rfl (by rw [qM1]) ?_
  refine e_iconst (pc := 6) g 0 dX10_findPlan_6 kc_0 ?_
  refine e_istore_n (pc := 7) g [(0, .ref 72), (1, .int a1), (2, .int 0)] dX10_findPlan_7 (by decide) rfl ?_
  exact h
set_option maxHeartbeats 4000000 in
set_option maxRecDepth 100000 in
theorem b_X10_findPlan_8 {G : GC} {n : Nat} {r : Option Value} {M' : MM} (g : Good G mX10_findPlan n) (gr : GoodR G r M') (hn : 4 ≤ n)  (v1 : Int32) (v2 : Int32)  (M : MM) (h : ((((1 <<< ((2 * v1) &&& 31)) : Int32) ≤ v2 → (r = none ∧ M' = M)) ∧ (¬ (((1 <<< ((2 * v1) &&& 31)) : Int32) ≤ v2) → (∃ (r4 : Int32) (M2 : MM), Fn 2 mX10_isPlan [.ref 72, .int v1, .int v2] M (some (.int r4)) M2 ∧ ((r4 = (0 : Int32) → (∀ x6 : Int32, x6 = v2 + 1 → At_X10_findPlan_8 G v1 x6 M2)) ∧ (¬ (r4 = (0 : Int32)) → (∃ (r9 : Int32) (M7 : MM), Fn 2 mX10_isWell [.ref 72, .int v1, .int v2] M2 (some (.int r9)) M7 ∧ ((r9 = (0 : Int32) → (∀ x11 : Int32, x11 = v2 + 1 → At_X10_findPlan_8 G v1 x11 M7)) ∧ (¬ (r9 = (0 : Int32)) → (∃ (r14 : Int64) (M12 : MM), Fn 3 mX10_breachOf [.ref 72, .int v1, .int v2] M7 (some (.long r14)) M12 ∧ (∃ (r17 : Int64) (M15 : MM), Fn 2 mX10_costOf [.ref 72, .int v1, .int v2] M12 (some (.long r17)) M15 ∧ (((M15.1 72 38) = ((-4) : Int32) → (∀ M19 : MM, M19 = ui M15 72 38 v2 → (∀ M20 : MM, M20 = ul M19 72 39 r14 → (∀ M21 : MM, M21 = ul M20 72 40 r17 → (∀ x22 : Int32, x22 = v2 + 1 → At_X10_findPlan_8 G v1 x22 M21))))) ∧ (¬ ((M15.1 72 38) = ((-4) : Int32)) → ((r14 < ((M15.2 72 39) : Int64) → (∀ M24 : MM, M24 = ui M15 72 38 v2 → (∀ M25 : MM, M25 = ul M24 72 39 r14 → (∀ M26 : MM, M26 = ul M25 72 40 r17 → (∀ x27 : Int32, x27 = v2 + 1 → At_X10_findPlan_8 G v1 x27 M26))))) ∧ (¬ (r14 < ((M15.2 72 39) : Int64)) → ((¬ r14 = ((M15.2 72 39) : Int64) → (∀ x29 : Int32, x29 = v2 + 1 → At_X10_findPlan_8 G v1 x29 M15)) ∧ (r14 = ((M15.2 72 39) : Int64) → ((r17 ≥ ((M15.2 72 40) : Int64) → (∀ x31 : Int32, x31 = v2 + 1 → At_X10_findPlan_8 G v1 x31 M15)) ∧ (¬ (r17 ≥ ((M15.2 72 40) : Int64)) → (∀ M32 : MM, M32 = ui M15 72 38 v2 → (∀ M33 : MM, M33 = ul M32 72 39 r14 → (∀ M34 : MM, M34 = ul M33 72 40 r17 → (∀ x35 : Int32, x35 = v2 + 1 → At_X10_findPlan_8 G v1 x35 M34))))))))))))))))))))))) : At_X10_findPlan_8 G v1 v2 M := by
  unfold At_X10_findPlan_8
  refine e_iload_n (pc := 8) g 2 dX10_findPlan_8 rfl ?_
  refine e_iconst (pc := 9) g 1 dX10_findPlan_9 kc_1 ?_
  refine e_iconst (pc := 10) g 2 dX10_findPlan_10 kc_2 ?_
  refine e_iload_n (pc := 11) g 1 dX10_findPlan_11 rfl ?_
  refine e_imul (pc := 12) g dX10_findPlan_12 ?_
  refine e_ishl (pc := 13) g dX10_findPlan_13 ?_
  refine e_icmp_ge (pc := 14) g 109 dX10_findPlan_14 (by decide) (fun c1 => ?_) (fun c1 => ?_)
  · have h := h.1 c1
    exact e_vret (pc := 109) g gr rfl dX10_findPlan_109 h
  · have h := h.2 c1
    refine e_aload_n (pc := 17) g 0 dX10_findPlan_17 rfl ?_
    refine e_iload_n (pc := 18) g 1 dX10_findPlan_18 rfl ?_
    refine e_iload_n (pc := 19) g 2 dX10_findPlan_19 rfl ?_
    obtain ⟨r4, M2, f3, h⟩ := h
    refine e_callV (As := [.int v1, .int v2]) (S := []) (pc := 20) g ok_X10_isPlan ml_X10_217 sh_72 ⟨_, rfl, rfl⟩ f3 (by omega) rfl (Nat.le_of_ble_eq_true rfl) dX10_findPlan_20 ?_
    refine e_to (S' := [.int r4]) rfl rfl rfl ?_
    refine e_if_eq (pc := 23) g 103 dX10_findPlan_23 (by decide) (fun c5 => ?_) (fun c5 => ?_)
    · have h := h.1 c5
      obtain ⟨x6, qx6⟩ : ∃ y : Int32, y = v2 + 1 := ⟨_, rfl⟩
      have h := h x6 qx6
      refine e_iinc (pc := 103) g 2 x6 [(0, .ref 72), (1, .int v1), (2, .int x6)] dX10_findPlan_103 rfl (by rw [qx6]; rfl) (by decide) rfl ?_
      refine e_goto (pc := 106) g 8 dX10_findPlan_106 (by decide) ?_
      exact h
    · have h := h.2 c5
      refine e_aload_n (pc := 26) g 0 dX10_findPlan_26 rfl ?_
      refine e_iload_n (pc := 27) g 1 dX10_findPlan_27 rfl ?_
      refine e_iload_n (pc := 28) g 2 dX10_findPlan_28 rfl ?_
      obtain ⟨r9, M7, f8, h⟩ := h
      refine e_callV (As := [.int v1, .int v2]) (S := []) (pc := 29) g ok_X10_isWell ml_X10_220 sh_72 ⟨_, rfl, rfl⟩ f8 (by omega) rfl (Nat.le_of_ble_eq_true rfl) dX10_findPlan_29 ?_
      refine e_to (S' := [.int r9]) rfl rfl rfl ?_
      refine e_if_eq (pc := 32) g 103 dX10_findPlan_32 (by decide) (fun c10 => ?_) (fun c10 => ?_)
      · have h := h.1 c10
        obtain ⟨x11, qx11⟩ : ∃ y : Int32, y = v2 + 1 := ⟨_, rfl⟩
        have h := h x11 qx11
        refine e_iinc (pc := 103) g 2 x11 [(0, .ref 72), (1, .int v1), (2, .int x11)] dX10_findPlan_103 rfl (by rw [qx11]; rfl) (by decide) rfl ?_
        refine e_goto (pc := 106) g 8 dX10_findPlan_106 (by decide) ?_
        exact h
      · have h := h.2 c10
        refine e_aload_n (pc := 35) g 0 dX10_findPlan_35 rfl ?_
        refine e_iload_n (pc := 36) g 1 dX10_findPlan_36 rfl ?_
        refine e_iload_n (pc := 37) g 2 dX10_findPlan_37 rfl ?_
        obtain ⟨r14, M12, f13, h⟩ := h
        refine e_callV (As := [.int v1, .int v2]) (S := []) (pc := 38) g ok_X10_breachOf ml_X10_223 sh_72 ⟨_, rfl, rfl⟩ f13 (by omega) rfl (Nat.le_of_ble_eq_true rfl) dX10_findPlan_38 ?_
        refine e_to (S' := [.long r14]) rfl rfl rfl ?_
        refine e_lstore_n (pc := 41) g [(0, .ref 72), (1, .int v1), (2, .int v2), (3, .long r14)] dX10_findPlan_41 (by decide) rfl ?_
        refine e_aload_n (pc := 42) g 0 dX10_findPlan_42 rfl ?_
        refine e_iload_n (pc := 43) g 1 dX10_findPlan_43 rfl ?_
        refine e_iload_n (pc := 44) g 2 dX10_findPlan_44 rfl ?_
        obtain ⟨r17, M15, f16, h⟩ := h
        refine e_callV (As := [.int v1, .int v2]) (S := []) (pc := 45) g ok_X10_costOf ml_X10_227 sh_72 ⟨_, rfl, rfl⟩ f16 (by omega) rfl (Nat.le_of_ble_eq_true rfl) dX10_findPlan_45 ?_
        refine e_to (S' := [.long r17]) rfl rfl rfl ?_
        refine e_lstore (pc := 48) g [(0, .ref 72), (1, .int v1), (2, .int v2), (3, .long r14), (5, .long r17)] dX10_findPlan_48 (by decide) rfl ?_
        refine e_aload_n (pc := 50) g 0 dX10_findPlan_50 rfl ?_
        refine e_getI (pc := 51) g fl_X10_214 sh_72 rfl dX10_findPlan_51 ?_
        refine e_bipush (pc := 54) g (-4) dX10_findPlan_54 kb_m4 ?_
        refine e_icmp_eq (pc := 56) g 87 dX10_findPlan_56 (by decide) (fun c18 => ?_) (fun c18 => ?_)
        · have h := h.1 c18
          refine e_aload_n (pc := 87) g 0 dX10_findPlan_87 rfl ?_
          refine e_iload_n (pc := 88) g 2 dX10_findPlan_88 rfl ?_
          refine e_putI (pc := 89) g fw_X10_214 sh_72 rfl dX10_findPlan_89 ?_
          obtain ⟨M19, qM19⟩ : ∃ y : MM, y = ui M15 72 38 v2 := ⟨_, rfl⟩
          have h := h M19 qM19
          refine e_to (M' := M19) rfl rfl (by rw [qM19]) ?_
          refine e_aload_n (pc := 92) g 0 dX10_findPlan_92 rfl ?_
          refine e_lload_n (pc := 93) g 3 dX10_findPlan_93 rfl ?_
          refine e_putL (pc := 94) g fw_X10_230 sh_72 rfl dX10_findPlan_94 ?_
          obtain ⟨M20, qM20⟩ : ∃ y : MM, y = ul M19 72 39 r14 := ⟨_, rfl⟩
          have h := h M20 qM20
          refine e_to (M' := M20) rfl rfl (by rw [qM20]) ?_
          refine e_aload_n (pc := 97) g 0 dX10_findPlan_97 rfl ?_
          refine e_lload (pc := 98) g 4 dX10_findPlan_98 rfl ?_
          refine e_putL (pc := 100) g fw_X10_234 sh_72 rfl dX10_findPlan_100 ?_
          obtain ⟨M21, qM21⟩ : ∃ y : MM, y = ul M20 72 40 r17 := ⟨_, rfl⟩
          have h := h M21 qM21
          refine e_to (M' := M21) rfl rfl (by rw [qM21]) ?_
          obtain ⟨x22, qx22⟩ : ∃ y : Int32, y = v2 + 1 := ⟨_, rfl⟩
          have h := h x22 qx22
          refine e_iinc (pc := 103) g 2 x22 [(0, .ref 72), (1, .int v1), (2, .int x22), (3, .long r14), (5, .long r17)] dX10_findPlan_103 rfl (by rw [qx22]; rfl) (by decide) rfl ?_
          refine e_goto (pc := 106) g 8 dX10_findPlan_106 (by decide) ?_
          refine e_sub [(0, .ref 72), (1, .int v1), (2, .int x22)] [0, 1, 2] rfl ?_
          exact h
        · have h := h.2 c18
          refine e_lload_n (pc := 59) g 3 dX10_findPlan_59 rfl ?_
          refine e_aload_n (pc := 60) g 0 dX10_findPlan_60 rfl ?_
          refine e_getL (pc := 61) g fl_X10_230 sh_72 rfl dX10_findPlan_61 ?_
          refine e_lcmp (pc := 64) g dX10_findPlan_64 ?_
          refine e_if_lt (pc := 65) g 87 dX10_findPlan_65 (by decide) (fun c23 => ?_) (fun c23 => ?_)
          · have h := h.1 (lc_lt.mp c23)
            refine e_aload_n (pc := 87) g 0 dX10_findPlan_87 rfl ?_
            refine e_iload_n (pc := 88) g 2 dX10_findPlan_88 rfl ?_
            refine e_putI (pc := 89) g fw_X10_214 sh_72 rfl dX10_findPlan_89 ?_
            obtain ⟨M24, qM24⟩ : ∃ y : MM, y = ui M15 72 38 v2 := ⟨_, rfl⟩
            have h := h M24 qM24
            refine e_to (M' := M24) rfl rfl (by rw [qM24]) ?_
            refine e_aload_n (pc := 92) g 0 dX10_findPlan_92 rfl ?_
            refine e_lload_n (pc := 93) g 3 dX10_findPlan_93 rfl ?_
            refine e_putL (pc := 94) g fw_X10_230 sh_72 rfl dX10_findPlan_94 ?_
            obtain ⟨M25, qM25⟩ : ∃ y : MM, y = ul M24 72 39 r14 := ⟨_, rfl⟩
            have h := h M25 qM25
            refine e_to (M' := M25) rfl rfl (by rw [qM25]) ?_
            refine e_aload_n (pc := 97) g 0 dX10_findPlan_97 rfl ?_
            refine e_lload (pc := 98) g 4 dX10_findPlan_98 rfl ?_
            refine e_putL (pc := 100) g fw_X10_234 sh_72 rfl dX10_findPlan_100 ?_
            obtain ⟨M26, qM26⟩ : ∃ y : MM, y = ul M25 72 40 r17 := ⟨_, rfl⟩
            have h := h M26 qM26
            refine e_to (M' := M26) rfl rfl (by rw [qM26]) ?_
            obtain ⟨x27, qx27⟩ : ∃ y : Int32, y = v2 + 1 := ⟨_, rfl⟩
            have h := h x27 qx27
            refine e_iinc (pc := 103) g 2 x27 [(0, .ref 72), (1, .int v1), (2, .int x27), (3, .long r14), (5, .long r17)] dX10_findPlan_103 rfl (by rw [qx27]; rfl) (by decide) rfl ?_
            refine e_goto (pc := 106) g 8 dX10_findPlan_106 (by decide) ?_
            refine e_sub [(0, .ref 72), (1, .int v1), (2, .int x27)] [0, 1, 2] rfl ?_
            exact h
          · have h := h.2 (fun z => c23 (lc_lt.mpr z))
            refine e_lload_n (pc := 68) g 3 dX10_findPlan_68 rfl ?_
            refine e_aload_n (pc := 69) g 0 dX10_findPlan_69 rfl ?_
            refine e_getL (pc := 70) g fl_X10_230 sh_72 rfl dX10_findPlan_70 ?_
            refine e_lcmp (pc := 73) g dX10_findPlan_73 ?_
            refine e_if_ne (pc := 74) g 103 dX10_findPlan_74 (by decide) (fun c28 => ?_) (fun c28 => ?_)
            · have h := h.1 (lc_ne.mp c28)
              obtain ⟨x29, qx29⟩ : ∃ y : Int32, y = v2 + 1 := ⟨_, rfl⟩
              have h := h x29 qx29
              refine e_iinc (pc := 103) g 2 x29 [(0, .ref 72), (1, .int v1), (2, .int x29), (3, .long r14), (5, .long r17)] dX10_findPlan_103 rfl (by rw [qx29]; rfl) (by decide) rfl ?_
              refine e_goto (pc := 106) g 8 dX10_findPlan_106 (by decide) ?_
              refine e_sub [(0, .ref 72), (1, .int v1), (2, .int x29)] [0, 1, 2] rfl ?_
              exact h
            · have h := h.2 (lc_eq.mp c28)
              refine e_lload (pc := 77) g 4 dX10_findPlan_77 rfl ?_
              refine e_aload_n (pc := 79) g 0 dX10_findPlan_79 rfl ?_
              refine e_getL (pc := 80) g fl_X10_234 sh_72 rfl dX10_findPlan_80 ?_
              refine e_lcmp (pc := 83) g dX10_findPlan_83 ?_
              refine e_if_ge (pc := 84) g 103 dX10_findPlan_84 (by decide) (fun c30 => ?_) (fun c30 => ?_)
              · have h := h.1 (lc_ge.mp c30)
                obtain ⟨x31, qx31⟩ : ∃ y : Int32, y = v2 + 1 := ⟨_, rfl⟩
                have h := h x31 qx31
                refine e_iinc (pc := 103) g 2 x31 [(0, .ref 72), (1, .int v1), (2, .int x31), (3, .long r14), (5, .long r17)] dX10_findPlan_103 rfl (by rw [qx31]; rfl) (by decide) rfl ?_
                refine e_goto (pc := 106) g 8 dX10_findPlan_106 (by decide) ?_
                refine e_sub [(0, .ref 72), (1, .int v1), (2, .int x31)] [0, 1, 2] rfl ?_
                exact h
              · have h := h.2 (fun z => c30 (lc_ge.mpr z))
                refine e_aload_n (pc := 87) g 0 dX10_findPlan_87 rfl ?_
                refine e_iload_n (pc := 88) g 2 dX10_findPlan_88 rfl ?_
                refine e_putI (pc := 89) g fw_X10_214 sh_72 rfl dX10_findPlan_89 ?_
                obtain ⟨M32, qM32⟩ : ∃ y : MM, y = ui M15 72 38 v2 := ⟨_, rfl⟩
                have h := h M32 qM32
                refine e_to (M' := M32) rfl rfl (by rw [qM32]) ?_
                refine e_aload_n (pc := 92) g 0 dX10_findPlan_92 rfl ?_
                refine e_lload_n (pc := 93) g 3 dX10_findPlan_93 rfl ?_
                refine e_putL (pc := 94) g fw_X10_230 sh_72 rfl dX10_findPlan_94 ?_
                obtain ⟨M33, qM33⟩ : ∃ y : MM, y = ul M32 72 39 r14 := ⟨_, rfl⟩
                have h := h M33 qM33
                refine e_to (M' := M33) rfl rfl (by rw [qM33]) ?_
                refine e_aload_n (pc := 97) g 0 dX10_findPlan_97 rfl ?_
                refine e_lload (pc := 98) g 4 dX10_findPlan_98 rfl ?_
                refine e_putL (pc := 100) g fw_X10_234 sh_72 rfl dX10_findPlan_100 ?_
                obtain ⟨M34, qM34⟩ : ∃ y : MM, y = ul M33 72 40 r17 := ⟨_, rfl⟩
                have h := h M34 qM34
                refine e_to (M' := M34) rfl rfl (by rw [qM34]) ?_
                obtain ⟨x35, qx35⟩ : ∃ y : Int32, y = v2 + 1 := ⟨_, rfl⟩
                have h := h x35 qx35
                refine e_iinc (pc := 103) g 2 x35 [(0, .ref 72), (1, .int v1), (2, .int x35), (3, .long r14), (5, .long r17)] dX10_findPlan_103 rfl (by rw [qx35]; rfl) (by decide) rfl ?_
                refine e_goto (pc := 106) g 8 dX10_findPlan_106 (by decide) ?_
                refine e_sub [(0, .ref 72), (1, .int v1), (2, .int x35)] [0, 1, 2] rfl ?_
                exact h
set_option maxHeartbeats 4000000 in
set_option maxRecDepth 100000 in
theorem b_X10_plan_0 {G : GC} {n : Nat} {r : Option Value} {M' : MM} (g : Good G mX10_plan n) (gr : GoodR G r M') (hn : 5 ≤ n) (a1 : Int32)   (M : MM) (h : (∃ (r3 : Int32) (M1 : MM), Fn 1 mX10_in [.long (a1.toInt64), .long 1, .long 6] M (some (.int r3)) M1 ∧ ((¬ r3 = (0 : Int32) → (∃ M5 : MM, Fn 4 mX10_findPlan [.ref 72, .int a1] M1 none M5 ∧ (r = some (.int (M5.1 72 38)) ∧ M' = M5))) ∧ (r3 = (0 : Int32) → (r = some (.int (-1)) ∧ M' = M1))))) : Ev G 0 [(0, .ref 72), (1, .int a1)] [] M := by
  refine e_iload_n (pc := 0) g 1 dX10_plan_0 rfl ?_
  refine e_i2l (pc := 1) g dX10_plan_1 ?_
  refine e_lconst (pc := 2) g 1 dX10_plan_2 kl_1 ?_
  refine e_ldc2 (pc := 3) g 6 kl_X10_150 dX10_plan_3 ?_
  obtain ⟨r3, M1, f2, h⟩ := h
  refine e_callS (As := [.long (a1.toInt64), .long 1, .long 6]) (S := []) (pc := 6) g ok_X10_in ml_X10_117 f2 (by omega) rfl (Nat.le_of_ble_eq_true rfl) dX10_plan_6 ?_
  refine e_to (S' := [.int r3]) rfl rfl rfl ?_
  refine e_if_ne (pc := 9) g 14 dX10_plan_9 (by decide) (fun c4 => ?_) (fun c4 => ?_)
  · have h := h.1 c4
    refine e_aload_n (pc := 14) g 0 dX10_plan_14 rfl ?_
    refine e_iload_n (pc := 15) g 1 dX10_plan_15 rfl ?_
    obtain ⟨M5, f6, h⟩ := h
    refine e_callV (As := [.int a1]) (S := []) (pc := 16) g ok_X10_findPlan ml_X10_237 sh_72 ⟨_, rfl, rfl⟩ f6 (by omega) rfl (Nat.le_of_ble_eq_true rfl) dX10_plan_16 ?_
    refine e_to (S' := []) rfl rfl rfl ?_
    refine e_aload_n (pc := 19) g 0 dX10_plan_19 rfl ?_
    refine e_getI (pc := 20) g fl_X10_214 sh_72 rfl dX10_plan_20 ?_
    exact e_iret (pc := 23) g gr rfl dX10_plan_23 h
  · have h := h.2 c4
    refine e_iconst (pc := 12) g (-1) dX10_plan_12 kc_m1 ?_
    exact e_iret (pc := 13) g gr rfl dX10_plan_13 h
set_option maxHeartbeats 4000000 in
set_option maxRecDepth 100000 in
theorem b_X10_planned_0 {G : GC} {n : Nat} {r : Option Value} {M' : MM} (g : Good G mX10_planned n) (gr : GoodR G r M') (hn : 5 ≤ n) (a1 : Int32) (a2 : Int32)   (M : MM) (h : (∃ (r3 : Int32) (M1 : MM), Fn 1 mX10_in [.long (a1.toInt64), .long 1, .long 6] M (some (.int r3)) M1 ∧ ((r3 = (0 : Int32) → (r = some (.long (-1)) ∧ M' = M1)) ∧ (¬ (r3 = (0 : Int32)) → (∃ (r7 : Int32) (M5 : MM), Fn 1 mX10_in [.long (a2.toInt64), .long 0, .long 1] M1 (some (.int r7)) M5 ∧ ((¬ r7 = (0 : Int32) → (∃ M9 : MM, Fn 4 mX10_findPlan [.ref 72, .int a1] M5 none M9 ∧ (r = some (.long (if a2 = (0 : Int32) then (M9.2 72 40) else (M9.2 72 39))) ∧ M' = M9))) ∧ (r7 = (0 : Int32) → (r = some (.long (-1)) ∧ M' = M5)))))))) : Ev G 0 [(0, .ref 72), (1, .int a1), (2, .int a2)] [] M := by
  refine e_iload_n (pc := 0) g 1 dX10_planned_0 rfl ?_
  refine e_i2l (pc := 1) g dX10_planned_1 ?_
  refine e_lconst (pc := 2) g 1 dX10_planned_2 kl_1 ?_
  refine e_ldc2 (pc := 3) g 6 kl_X10_150 dX10_planned_3 ?_
  obtain ⟨r3, M1, f2, h⟩ := h
  refine e_callS (As := [.long (a1.toInt64), .long 1, .long 6]) (S := []) (pc := 6) g ok_X10_in ml_X10_117 f2 (by omega) rfl (Nat.le_of_ble_eq_true rfl) dX10_planned_6 ?_
  refine e_to (S' := [.int r3]) rfl rfl rfl ?_
  refine e_if_eq (pc := 9) g 22 dX10_planned_9 (by decide) (fun c4 => ?_) (fun c4 => ?_)
  · have h := h.1 c4
    refine e_ldc2 (pc := 22) g (-1) kl_X10_241 dX10_planned_22 ?_
    exact e_lret (pc := 25) g gr rfl dX10_planned_25 h
  · have h := h.2 c4
    refine e_iload_n (pc := 12) g 2 dX10_planned_12 rfl ?_
    refine e_i2l (pc := 13) g dX10_planned_13 ?_
    refine e_lconst (pc := 14) g 0 dX10_planned_14 kl_0 ?_
    refine e_lconst (pc := 15) g 1 dX10_planned_15 kl_1 ?_
    obtain ⟨r7, M5, f6, h⟩ := h
    refine e_callS (As := [.long (a2.toInt64), .long 0, .long 1]) (S := []) (pc := 16) g ok_X10_in ml_X10_117 f6 (by omega) rfl (Nat.le_of_ble_eq_true rfl) dX10_planned_16 ?_
    refine e_to (S' := [.int r7]) rfl rfl rfl ?_
    refine e_if_ne (pc := 19) g 26 dX10_planned_19 (by decide) (fun c8 => ?_) (fun c8 => ?_)
    · have h := h.1 c8
      refine e_aload_n (pc := 26) g 0 dX10_planned_26 rfl ?_
      refine e_iload_n (pc := 27) g 1 dX10_planned_27 rfl ?_
      obtain ⟨M9, f10, h⟩ := h
      refine e_callV (As := [.int a1]) (S := []) (pc := 28) g ok_X10_findPlan ml_X10_237 sh_72 ⟨_, rfl, rfl⟩ f10 (by omega) rfl (Nat.le_of_ble_eq_true rfl) dX10_planned_28 ?_
      refine e_to (S' := []) rfl rfl rfl ?_
      refine e_iload_n (pc := 31) g 2 dX10_planned_31 rfl ?_
      have hj : Ev G 46 [(0, .ref 72), (1, .int a1), (2, .int a2)] [.long (if a2 = (0 : Int32) then (M9.2 72 40) else (M9.2 72 39))] M9 := by
        exact e_lret (pc := 46) g gr rfl dX10_planned_46 h
      refine e_if_ne (pc := 32) g 42 dX10_planned_32 (by decide) (fun c11 => ?_) (fun c11 => ?_)
      · rw [if_neg c11] at hj
        refine e_aload_n (pc := 42) g 0 dX10_planned_42 rfl ?_
        refine e_getL (pc := 43) g fl_X10_230 sh_72 rfl dX10_planned_43 ?_
        exact hj
      · rw [if_pos c11] at hj
        refine e_aload_n (pc := 35) g 0 dX10_planned_35 rfl ?_
        refine e_getL (pc := 36) g fl_X10_234 sh_72 rfl dX10_planned_36 ?_
        refine e_goto (pc := 39) g 46 dX10_planned_39 (by decide) ?_
        exact hj
    · have h := h.2 c8
      refine e_ldc2 (pc := 22) g (-1) kl_X10_241 dX10_planned_22 ?_
      exact e_lret (pc := 25) g gr rfl dX10_planned_25 h
set_option maxHeartbeats 4000000 in
set_option maxRecDepth 100000 in
theorem b_X10_judge_0 {G : GC} {n : Nat} {r : Option Value} {M' : MM} (g : Good G mX10_judge n) (gr : GoodR G r M') (hn : 4 ≤ n) (a1 : Int32) (a2 : Int32) (a3 : Int32)   (M : MM) (h : (∃ (r3 : Int32) (M1 : MM), Fn 2 mX10_isPlan [.ref 72, .int a1, .int a2] M (some (.int r3)) M1 ∧ ((r3 = (0 : Int32) → (r = some (.long (-1)) ∧ M' = M1)) ∧ (¬ (r3 = (0 : Int32)) → (∃ (r7 : Int32) (M5 : MM), Fn 1 mX10_in [.long (a3.toInt64), .long 0, .long 2] M1 (some (.int r7)) M5 ∧ ((¬ r7 = (0 : Int32) → ((¬ a3 = (0 : Int32) → ((¬ a3 = (1 : Int32) → (∃ (r13 : Int64) (M11 : MM), Fn 3 mX10_breachOf [.ref 72, .int a1, .int a2] M5 (some (.long r13)) M11 ∧ (r = some (.long r13) ∧ M' = M11))) ∧ (a3 = (1 : Int32) → (∃ (r16 : Int64) (M14 : MM), Fn 2 mX10_costOf [.ref 72, .int a1, .int a2] M5 (some (.long r16)) M14 ∧ (r = some (.long r16) ∧ M' = M14))))) ∧ (a3 = (0 : Int32) → (∃ (r19 : Int32) (M17 : MM), Fn 2 mX10_isWell [.ref 72, .int a1, .int a2] M5 (some (.int r19)) M17 ∧ (r = some (.long (if r19 = (0 : Int32) then 0 else 1)) ∧ M' = M17))))) ∧ (r7 = (0 : Int32) → (r = some (.long (-1)) ∧ M' = M5)))))))) : Ev G 0 [(0, .ref 72), (1, .int a1), (2, .int a2), (3, .int a3)] [] M := by
  refine e_aload_n (pc := 0) g 0 dX10_judge_0 rfl ?_
  refine e_iload_n (pc := 1) g 1 dX10_judge_1 rfl ?_
  refine e_iload_n (pc := 2) g 2 dX10_judge_2 rfl ?_
  obtain ⟨r3, M1, f2, h⟩ := h
  refine e_callV (As := [.int a1, .int a2]) (S := []) (pc := 3) g ok_X10_isPlan ml_X10_217 sh_72 ⟨_, rfl, rfl⟩ f2 (by omega) rfl (Nat.le_of_ble_eq_true rfl) dX10_judge_3 ?_
  refine e_to (S' := [.int r3]) rfl rfl rfl ?_
  refine e_if_eq (pc := 6) g 21 dX10_judge_6 (by decide) (fun c4 => ?_) (fun c4 => ?_)
  · have h := h.1 c4
    refine e_ldc2 (pc := 21) g (-1) kl_X10_241 dX10_judge_21 ?_
    exact e_lret (pc := 24) g gr rfl dX10_judge_24 h
  · have h := h.2 c4
    refine e_iload_n (pc := 9) g 3 dX10_judge_9 rfl ?_
    refine e_i2l (pc := 10) g dX10_judge_10 ?_
    refine e_lconst (pc := 11) g 0 dX10_judge_11 kl_0 ?_
    refine e_ldc2 (pc := 12) g 2 kl_X10_243 dX10_judge_12 ?_
    obtain ⟨r7, M5, f6, h⟩ := h
    refine e_callS (As := [.long (a3.toInt64), .long 0, .long 2]) (S := []) (pc := 15) g ok_X10_in ml_X10_117 f6 (by omega) rfl (Nat.le_of_ble_eq_true rfl) dX10_judge_15 ?_
    refine e_to (S' := [.int r7]) rfl rfl rfl ?_
    refine e_if_ne (pc := 18) g 25 dX10_judge_18 (by decide) (fun c8 => ?_) (fun c8 => ?_)
    · have h := h.1 c8
      refine e_iload_n (pc := 25) g 3 dX10_judge_25 rfl ?_
      refine e_if_ne (pc := 26) g 46 dX10_judge_26 (by decide) (fun c9 => ?_) (fun c9 => ?_)
      · have h := h.1 c9
        refine e_iload_n (pc := 46) g 3 dX10_judge_46 rfl ?_
        refine e_iconst (pc := 47) g 1 dX10_judge_47 kc_1 ?_
        refine e_icmp_ne (pc := 48) g 60 dX10_judge_48 (by decide) (fun c10 => ?_) (fun c10 => ?_)
        · have h := h.1 c10
          refine e_aload_n (pc := 60) g 0 dX10_judge_60 rfl ?_
          refine e_iload_n (pc := 61) g 1 dX10_judge_61 rfl ?_
          refine e_iload_n (pc := 62) g 2 dX10_judge_62 rfl ?_
          obtain ⟨r13, M11, f12, h⟩ := h
          refine e_callV (As := [.int a1, .int a2]) (S := []) (pc := 63) g ok_X10_breachOf ml_X10_223 sh_72 ⟨_, rfl, rfl⟩ f12 (by omega) rfl (Nat.le_of_ble_eq_true rfl) dX10_judge_63 ?_
          refine e_to (S' := [.long r13]) rfl rfl rfl ?_
          exact e_lret (pc := 66) g gr rfl dX10_judge_66 h
        · have h := h.2 c10
          refine e_aload_n (pc := 51) g 0 dX10_judge_51 rfl ?_
          refine e_iload_n (pc := 52) g 1 dX10_judge_52 rfl ?_
          refine e_iload_n (pc := 53) g 2 dX10_judge_53 rfl ?_
          obtain ⟨r16, M14, f15, h⟩ := h
          refine e_callV (As := [.int a1, .int a2]) (S := []) (pc := 54) g ok_X10_costOf ml_X10_227 sh_72 ⟨_, rfl, rfl⟩ f15 (by omega) rfl (Nat.le_of_ble_eq_true rfl) dX10_judge_54 ?_
          refine e_to (S' := [.long r16]) rfl rfl rfl ?_
          refine e_goto (pc := 57) g 66 dX10_judge_57 (by decide) ?_
          exact e_lret (pc := 66) g gr rfl dX10_judge_66 h
      · have h := h.2 c9
        refine e_aload_n (pc := 29) g 0 dX10_judge_29 rfl ?_
        refine e_iload_n (pc := 30) g 1 dX10_judge_30 rfl ?_
        refine e_iload_n (pc := 31) g 2 dX10_judge_31 rfl ?_
        obtain ⟨r19, M17, f18, h⟩ := h
        refine e_callV (As := [.int a1, .int a2]) (S := []) (pc := 32) g ok_X10_isWell ml_X10_220 sh_72 ⟨_, rfl, rfl⟩ f18 (by omega) rfl (Nat.le_of_ble_eq_true rfl) dX10_judge_32 ?_
        refine e_to (S' := [.int r19]) rfl rfl rfl ?_
        have hj : Ev G 66 [(0, .ref 72), (1, .int a1), (2, .int a2), (3, .int a3)] [.long (if r19 = (0 : Int32) then 0 else 1)] M17 := by
          exact e_lret (pc := 66) g gr rfl dX10_judge_66 h
        refine e_if_eq (pc := 35) g 42 dX10_judge_35 (by decide) (fun c20 => ?_) (fun c20 => ?_)
        · rw [if_pos c20] at hj
          refine e_lconst (pc := 42) g 0 dX10_judge_42 kl_0 ?_
          refine e_goto (pc := 43) g 66 dX10_judge_43 (by decide) ?_
          exact hj
        · rw [if_neg c20] at hj
          refine e_lconst (pc := 38) g 1 dX10_judge_38 kl_1 ?_
          refine e_goto (pc := 39) g 66 dX10_judge_39 (by decide) ?_
          exact hj
    · have h := h.2 c8
      refine e_ldc2 (pc := 21) g (-1) kl_X10_241 dX10_judge_21 ?_
      exact e_lret (pc := 24) g gr rfl dX10_judge_24 h
/-- at the cut 23 of X10_follow -/
def At_X10_follow_23 (G : GC)  (v1 : Int32) (v2 : Int32) (v3 : Int32)  (M : MM) : Prop := Ev G 23 [(0, .ref 72), (1, .int v1), (2, .int v2), (3, .int v3)] [] M
set_option maxHeartbeats 4000000 in
set_option maxRecDepth 100000 in
theorem b_X10_follow_0 {G : GC} {n : Nat} {r : Option Value} {M' : MM} (g : Good G mX10_follow n) (gr : GoodR G r M') (hn : 5 ≤ n) (a1 : Int32)   (M : MM) (h : (∃ (r3 : Int32) (M1 : MM), Fn 1 mX10_in [.long (a1.toInt64), .long 1, .long 6] M (some (.int r3)) M1 ∧ ((¬ r3 = (0 : Int32) → (∃ M5 : MM, Fn 4 mX10_findPlan [.ref 72, .int a1] M1 none M5 ∧ At_X10_follow_23 G a1 0 0 M5)) ∧ (r3 = (0 : Int32) → (r = some (.int (-1)) ∧ M' = M1))))) : Ev G 0 [(0, .ref 72), (1, .int a1)] [] M := by
  refine e_iload_n (pc := 0) g 1 dX10_follow_0 rfl ?_
  refine e_i2l (pc := 1) g dX10_follow_1 ?_
  refine e_lconst (pc := 2) g 1 dX10_follow_2 kl_1 ?_
  refine e_ldc2 (pc := 3) g 6 kl_X10_150 dX10_follow_3 ?_
  obtain ⟨r3, M1, f2, h⟩ := h
  refine e_callS (As := [.long (a1.toInt64), .long 1, .long 6]) (S := []) (pc := 6) g ok_X10_in ml_X10_117 f2 (by omega) rfl (Nat.le_of_ble_eq_true rfl) dX10_follow_6 ?_
  refine e_to (S' := [.int r3]) rfl rfl rfl ?_
  refine e_if_ne (pc := 9) g 14 dX10_follow_9 (by decide) (fun c4 => ?_) (fun c4 => ?_)
  · have h := h.1 c4
    refine e_aload_n (pc := 14) g 0 dX10_follow_14 rfl ?_
    refine e_iload_n (pc := 15) g 1 dX10_follow_15 rfl ?_
    obtain ⟨M5, f6, h⟩ := h
    refine e_callV (As := [.int a1]) (S := []) (pc := 16) g ok_X10_findPlan ml_X10_237 sh_72 ⟨_, rfl, rfl⟩ f6 (by omega) rfl (Nat.le_of_ble_eq_true rfl) dX10_follow_16 ?_
    refine e_to (S' := []) rfl rfl rfl ?_
    refine e_iconst (pc := 19) g 0 dX10_follow_19 kc_0 ?_
    refine e_istore_n (pc := 20) g [(0, .ref 72), (1, .int a1), (2, .int 0)] dX10_follow_20 (by decide) rfl ?_
    refine e_iconst (pc := 21) g 0 dX10_follow_21 kc_0 ?_
    refine e_istore_n (pc := 22) g [(0, .ref 72), (1, .int a1), (2, .int 0), (3, .int 0)] dX10_follow_22 (by decide) rfl ?_
    exact h
  · have h := h.2 c4
    refine e_iconst (pc := 12) g (-1) dX10_follow_12 kc_m1 ?_
    exact e_iret (pc := 13) g gr rfl dX10_follow_13 h
set_option maxHeartbeats 4000000 in
set_option maxRecDepth 100000 in
theorem b_X10_follow_23 {G : GC} {n : Nat} {r : Option Value} {M' : MM} (g : Good G mX10_follow n) (gr : GoodR G r M') (hn : 5 ≤ n)  (v1 : Int32) (v2 : Int32) (v3 : Int32)  (M : MM) (h : (((2 : Int32) ≤ v3 → (r = some (.int v2) ∧ M' = M)) ∧ (¬ ((2 : Int32) ≤ v3) → ((((M.1 72 13) : Int32) ≤ v3 → (r = some (.int v2) ∧ M' = M)) ∧ (¬ (((M.1 72 13) : Int32) ≤ v3) → (∃ (r5 : Int32) (M3 : MM), Fn 1 mX10_isIn [.ref 72, .int (M.1 72 38), .int 0, .int v3] M (some (.int r5)) M3 ∧ (∃ M6 : MM, Fn 1 mX10_turns [.ref 72, .int v3, .int r5] M3 none M6 ∧ (vp_in v3 4) ∧ (∀ x10 : Int32, x10 = (v2 + (if (M6.1 89 v3.toNatClampNeg) = (0 : Int32) then 0 else 1)) → (∀ x11 : Int32, x11 = v3 + 1 → At_X10_follow_23 G v1 x10 x11 M6))))))))) : At_X10_follow_23 G v1 v2 v3 M := by
  unfold At_X10_follow_23
  refine e_iload_n (pc := 23) g 3 dX10_follow_23 rfl ?_
  refine e_iconst (pc := 24) g 2 dX10_follow_24 kc_2 ?_
  refine e_icmp_ge (pc := 25) g 74 dX10_follow_25 (by decide) (fun c1 => ?_) (fun c1 => ?_)
  · have h := h.1 c1
    refine e_iload_n (pc := 74) g 2 dX10_follow_74 rfl ?_
    exact e_iret (pc := 75) g gr rfl dX10_follow_75 h
  · have h := h.2 c1
    refine e_iload_n (pc := 28) g 3 dX10_follow_28 rfl ?_
    refine e_aload_n (pc := 29) g 0 dX10_follow_29 rfl ?_
    refine e_getI (pc := 30) g fl_X10_154 sh_72 rfl dX10_follow_30 ?_
    refine e_icmp_ge (pc := 33) g 74 dX10_follow_33 (by decide) (fun c2 => ?_) (fun c2 => ?_)
    · have h := h.1 c2
      refine e_iload_n (pc := 74) g 2 dX10_follow_74 rfl ?_
      exact e_iret (pc := 75) g gr rfl dX10_follow_75 h
    · have h := h.2 c2
      refine e_aload_n (pc := 36) g 0 dX10_follow_36 rfl ?_
      refine e_iload_n (pc := 37) g 3 dX10_follow_37 rfl ?_
      refine e_aload_n (pc := 38) g 0 dX10_follow_38 rfl ?_
      refine e_aload_n (pc := 39) g 0 dX10_follow_39 rfl ?_
      refine e_getI (pc := 40) g fl_X10_214 sh_72 rfl dX10_follow_40 ?_
      refine e_iconst (pc := 43) g 0 dX10_follow_43 kc_0 ?_
      refine e_iload_n (pc := 44) g 3 dX10_follow_44 rfl ?_
      obtain ⟨r5, M3, f4, h⟩ := h
      refine e_callV (As := [.int (M.1 72 38), .int 0, .int v3]) (S := [.int v3, .ref 72]) (pc := 45) g ok_X10_isIn ml_X10_198 sh_72 ⟨_, rfl, rfl⟩ f4 (by omega) rfl (Nat.le_of_ble_eq_true rfl) dX10_follow_45 ?_
      refine e_to (S' := [.int r5, .int v3, .ref 72]) rfl rfl rfl ?_
      obtain ⟨M6, f7, h⟩ := h
      refine e_callV (As := [.int v3, .int r5]) (S := []) (pc := 48) g ok_X10_turns ml_X10_167 sh_72 ⟨_, rfl, rfl⟩ f7 (by omega) rfl (Nat.le_of_ble_eq_true rfl) dX10_follow_48 ?_
      refine e_to (S' := []) rfl rfl rfl ?_
      refine e_iload_n (pc := 51) g 2 dX10_follow_51 rfl ?_
      refine e_aload_n (pc := 52) g 0 dX10_follow_52 rfl ?_
      refine e_getR (pc := 53) g 89 fl_X10_58 sh_72 rfl dX10_follow_53 ?_
      refine e_iload_n (pc := 56) g 3 dX10_follow_56 rfl ?_
      obtain ⟨o8, h⟩ := h
      refine e_zald (pc := 57) g sh_89 o8 dX10_follow_57 ?_
      have hj : Ev G 66 [(0, .ref 72), (1, .int v1), (2, .int v2), (3, .int v3)] [.int (if (M6.1 89 v3.toNatClampNeg) = (0 : Int32) then 0 else 1), .int v2] M6 := by
        refine e_iadd (pc := 66) g dX10_follow_66 ?_
        obtain ⟨x10, qx10⟩ : ∃ y : Int32, y = (v2 + (if (M6.1 89 v3.toNatClampNeg) = (0 : Int32) then 0 else 1)) := ⟨_, rfl⟩
        have h := h x10 qx10
        refine e_to (S' := [.int x10]) rfl (by rw [qx10]) rfl ?_
        refine e_istore_n (pc := 67) g [(0, .ref 72), (1, .int v1), (2, .int x10), (3, .int v3)] dX10_follow_67 (by decide) rfl ?_
        obtain ⟨x11, qx11⟩ : ∃ y : Int32, y = v3 + 1 := ⟨_, rfl⟩
        have h := h x11 qx11
        refine e_iinc (pc := 68) g 3 x11 [(0, .ref 72), (1, .int v1), (2, .int x10), (3, .int x11)] dX10_follow_68 rfl (by rw [qx11]; rfl) (by decide) rfl ?_
        refine e_goto (pc := 71) g 23 dX10_follow_71 (by decide) ?_
        exact h
      refine e_if_eq (pc := 58) g 65 dX10_follow_58 (by decide) (fun c9 => ?_) (fun c9 => ?_)
      · rw [if_pos c9] at hj
        refine e_iconst (pc := 65) g 0 dX10_follow_65 kc_0 ?_
        exact hj
      · rw [if_neg c9] at hj
        refine e_iconst (pc := 61) g 1 dX10_follow_61 kc_1 ?_
        refine e_goto (pc := 62) g 66 dX10_follow_62 (by decide) ?_
        exact hj
set_option maxHeartbeats 4000000 in
set_option maxRecDepth 100000 in
theorem b_X10_isSheet_0 {G : GC} {n : Nat} {r : Option Value} {M' : MM} (g : Good G mX10_isSheet n) (gr : GoodR G r M') (hn : 2 ≤ n) (a0 : Int32) (a1 : Int32)   (M : MM) (h : (∃ (r3 : Int32) (M1 : MM), Fn 1 mX10_in [.long (a0.toInt64), .long 0, .long 3] M (some (.int r3)) M1 ∧ ((r3 = (0 : Int32) → (r = some (.int 0) ∧ M' = M1)) ∧ (¬ (r3 = (0 : Int32)) → (∃ (r7 : Int32) (M5 : MM), Fn 1 mX10_in [.long (a1.toInt64), .long 0, .long 2] M1 (some (.int r7)) M5 ∧ ((if r7 = (0 : Int32) then 0 else 1) = (0 : Int32) ∨ (if r7 = (0 : Int32) then 0 else 1) = (1 : Int32)) ∧ (r = some (.int (if r7 = (0 : Int32) then 0 else 1)) ∧ M' = M5)))))) : Ev G 0 [(0, .int a0), (1, .int a1)] [] M := by
  refine e_iload_n (pc := 0) g 0 dX10_isSheet_0 rfl ?_
  refine e_i2l (pc := 1) g dX10_isSheet_1 ?_
  refine e_lconst (pc := 2) g 0 dX10_isSheet_2 kl_0 ?_
  refine e_ldc2 (pc := 3) g 3 kl_X10_245 dX10_isSheet_3 ?_
  obtain ⟨r3, M1, f2, h⟩ := h
  refine e_callS (As := [.long (a0.toInt64), .long 0, .long 3]) (S := []) (pc := 6) g ok_X10_in ml_X10_117 f2 (by omega) rfl (Nat.le_of_ble_eq_true rfl) dX10_isSheet_6 ?_
  refine e_to (S' := [.int r3]) rfl rfl rfl ?_
  refine e_if_eq (pc := 9) g 28 dX10_isSheet_9 (by decide) (fun c4 => ?_) (fun c4 => ?_)
  · have h := h.1 c4
    refine e_iconst (pc := 28) g 0 dX10_isSheet_28 kc_0 ?_
    exact e_zret (pc := 29) g gr rfl (by decide) dX10_isSheet_29 h
  · have h := h.2 c4
    refine e_iload_n (pc := 12) g 1 dX10_isSheet_12 rfl ?_
    refine e_i2l (pc := 13) g dX10_isSheet_13 ?_
    refine e_lconst (pc := 14) g 0 dX10_isSheet_14 kl_0 ?_
    refine e_ldc2 (pc := 15) g 2 kl_X10_243 dX10_isSheet_15 ?_
    obtain ⟨r7, M5, f6, h⟩ := h
    refine e_callS (As := [.long (a1.toInt64), .long 0, .long 2]) (S := []) (pc := 18) g ok_X10_in ml_X10_117 f6 (by omega) rfl (Nat.le_of_ble_eq_true rfl) dX10_isSheet_18 ?_
    refine e_to (S' := [.int r7]) rfl rfl rfl ?_
    have hj : Ev G 29 [(0, .int a0), (1, .int a1)] [.int (if r7 = (0 : Int32) then 0 else 1)] M5 := by
      obtain ⟨o9, h⟩ := h
      exact e_zret (pc := 29) g gr rfl o9 dX10_isSheet_29 h
    refine e_if_eq (pc := 21) g 28 dX10_isSheet_21 (by decide) (fun c8 => ?_) (fun c8 => ?_)
    · rw [if_pos c8] at hj
      refine e_iconst (pc := 28) g 0 dX10_isSheet_28 kc_0 ?_
      exact hj
    · rw [if_neg c8] at hj
      refine e_iconst (pc := 24) g 1 dX10_isSheet_24 kc_1 ?_
      refine e_goto (pc := 25) g 29 dX10_isSheet_25 (by decide) ?_
      exact hj
/-- at the cut 40 of X10_sheet -/
def At_X10_sheet_40 (G : GC)  (v1 : Int32) (v2 : Int32) (v3 : Int32) (v4 : Int32)  (M : MM) : Prop := Ev G 40 [(0, .ref 72), (1, .int v1), (2, .int v2), (3, .int v3), (4, .int v4)] [] M
set_option maxHeartbeats 4000000 in
set_option maxRecDepth 100000 in
theorem b_X10_sheet_0 {G : GC} {n : Nat} {r : Option Value} {M' : MM} (g : Good G mX10_sheet n) (gr : GoodR G r M') (hn : 3 ≤ n) (a1 : Int32) (a2 : Int32) (a3 : Int32)   (M : MM) (h : (∃ (r3 : Int32) (M1 : MM), Fn 2 mX10_isSheet [.int a1, .int a2] M (some (.int r3)) M1 ∧ ((r3 = (0 : Int32) → (r = some (.int (-1)) ∧ M' = M1)) ∧ (¬ (r3 = (0 : Int32)) → ((a3 ≤ (60 : Int32) → (((0 : Int32) ≤ a3 → (vp_in a1 4) ∧ (∀ M8 : MM, M8 = ui M1 104 a1.toNatClampNeg a2 → (∀ M9 : MM, M9 = ui M8 105 a1.toNatClampNeg a3 → At_X10_sheet_40 G a1 a2 a3 0 M9))) ∧ (¬ ((0 : Int32) ≤ a3) → (r = some (.int (-14)) ∧ M' = M1)))) ∧ (¬ (a3 ≤ (60 : Int32)) → (r = some (.int (-1)) ∧ M' = M1))))))) : Ev G 0 [(0, .ref 72), (1, .int a1), (2, .int a2), (3, .int a3)] [] M := by
  refine e_iload_n (pc := 0) g 1 dX10_sheet_0 rfl ?_
  refine e_iload_n (pc := 1) g 2 dX10_sheet_1 rfl ?_
  obtain ⟨r3, M1, f2, h⟩ := h
  refine e_callS (As := [.int a1, .int a2]) (S := []) (pc := 2) g ok_X10_isSheet ml_X10_247 f2 (by omega) rfl (Nat.le_of_ble_eq_true rfl) dX10_sheet_2 ?_
  refine e_to (S' := [.int r3]) rfl rfl rfl ?_
  refine e_if_eq (pc := 5) g 14 dX10_sheet_5 (by decide) (fun c4 => ?_) (fun c4 => ?_)
  · have h := h.1 c4
    refine e_iconst (pc := 14) g (-1) dX10_sheet_14 kc_m1 ?_
    exact e_iret (pc := 15) g gr rfl dX10_sheet_15 h
  · have h := h.2 c4
    refine e_iload_n (pc := 8) g 3 dX10_sheet_8 rfl ?_
    refine e_bipush (pc := 9) g 60 dX10_sheet_9 kb_60 ?_
    refine e_icmp_le (pc := 11) g 16 dX10_sheet_11 (by decide) (fun c5 => ?_) (fun c5 => ?_)
    · have h := h.1 c5
      refine e_iload_n (pc := 16) g 3 dX10_sheet_16 rfl ?_
      refine e_if_ge (pc := 17) g 23 dX10_sheet_17 (by decide) (fun c6 => ?_) (fun c6 => ?_)
      · have h := h.1 c6
        refine e_aload_n (pc := 23) g 0 dX10_sheet_23 rfl ?_
        refine e_getR (pc := 24) g 104 fl_X10_104 sh_72 rfl dX10_sheet_24 ?_
        refine e_iload_n (pc := 27) g 1 dX10_sheet_27 rfl ?_
        refine e_iload_n (pc := 28) g 2 dX10_sheet_28 rfl ?_
        obtain ⟨o7, h⟩ := h
        refine e_iast (pc := 29) g sh_104 o7 dX10_sheet_29 ?_
        obtain ⟨M8, qM8⟩ : ∃ y : MM, y = ui M1 104 a1.toNatClampNeg a2 := ⟨_, rfl⟩
        have h := h M8 qM8
        refine e_to (M' := M8) rfl rfl (by rw [qM8]) ?_
        refine e_aload_n (pc := 30) g 0 dX10_sheet_30 rfl ?_
        refine e_getR (pc := 31) g 105 fl_X10_107 sh_72 rfl dX10_sheet_31 ?_
        refine e_iload_n (pc := 34) g 1 dX10_sheet_34 rfl ?_
        refine e_iload_n (pc := 35) g 3 dX10_sheet_35 rfl ?_
        refine e_iast (pc := 36) g sh_105 o7 dX10_sheet_36 ?_
        obtain ⟨M9, qM9⟩ : ∃ y : MM, y = ui M8 105 a1.toNatClampNeg a3 := ⟨_, rfl⟩
        have h := h M9 qM9
        refine e_to (M' := M9) rfl rfl (by rw [qM9]) ?_
        refine e_iconst (pc := 37) g 0 dX10_sheet_37 kc_0 ?_
        refine e_istore (pc := 38) g [(0, .ref 72), (1, .int a1), (2, .int a2), (3, .int a3), (4, .int 0)] dX10_sheet_38 (by decide) rfl ?_
        exact h
      · have h := h.2 c6
        refine e_bipush (pc := 20) g (-14) dX10_sheet_20 kb_m14 ?_
        exact e_iret (pc := 22) g gr rfl dX10_sheet_22 h
    · have h := h.2 c5
      refine e_iconst (pc := 14) g (-1) dX10_sheet_14 kc_m1 ?_
      exact e_iret (pc := 15) g gr rfl dX10_sheet_15 h
set_option maxHeartbeats 4000000 in
set_option maxRecDepth 100000 in
theorem b_X10_sheet_40 {G : GC} {n : Nat} {r : Option Value} {M' : MM} (g : Good G mX10_sheet n) (gr : GoodR G r M') (hn : 3 ≤ n)  (v1 : Int32) (v2 : Int32) (v3 : Int32) (v4 : Int32)  (M : MM) (h : (((60 : Int32) ≤ v4 → (r = some (.int 1) ∧ M' = M)) ∧ (¬ ((60 : Int32) ≤ v4) → (vp_in ((60 * v1) + v4) 240) ∧ (∀ M3 : MM, M3 = ui M 106 ((60 * v1) + v4).toNatClampNeg 0 → (∀ x4 : Int32, x4 = v4 + 1 → At_X10_sheet_40 G v1 v2 v3 x4 M3))))) : At_X10_sheet_40 G v1 v2 v3 v4 M := by
  unfold At_X10_sheet_40
  refine e_iload (pc := 40) g 4 dX10_sheet_40 rfl ?_
  refine e_bipush (pc := 42) g 60 dX10_sheet_42 kb_60 ?_
  refine e_icmp_ge (pc := 44) g 66 dX10_sheet_44 (by decide) (fun c1 => ?_) (fun c1 => ?_)
  · have h := h.1 c1
    refine e_iconst (pc := 66) g 1 dX10_sheet_66 kc_1 ?_
    exact e_iret (pc := 67) g gr rfl dX10_sheet_67 h
  · have h := h.2 c1
    refine e_aload_n (pc := 47) g 0 dX10_sheet_47 rfl ?_
    refine e_getR (pc := 48) g 106 fl_X10_110 sh_72 rfl dX10_sheet_48 ?_
    refine e_bipush (pc := 51) g 60 dX10_sheet_51 kb_60 ?_
    refine e_iload_n (pc := 53) g 1 dX10_sheet_53 rfl ?_
    refine e_imul (pc := 54) g dX10_sheet_54 ?_
    refine e_iload (pc := 55) g 4 dX10_sheet_55 rfl ?_
    refine e_iadd (pc := 57) g dX10_sheet_57 ?_
    refine e_iconst (pc := 58) g 0 dX10_sheet_58 kc_0 ?_
    obtain ⟨o2, h⟩ := h
    refine e_iast (pc := 59) g sh_106 o2 dX10_sheet_59 ?_
    obtain ⟨M3, qM3⟩ : ∃ y : MM, y = ui M 106 ((60 * v1) + v4).toNatClampNeg 0 := ⟨_, rfl⟩
    have h := h M3 qM3
    refine e_to (M' := M3) rfl rfl (by rw [qM3]) ?_
    obtain ⟨x4, qx4⟩ : ∃ y : Int32, y = v4 + 1 := ⟨_, rfl⟩
    have h := h x4 qx4
    refine e_iinc (pc := 60) g 4 x4 [(0, .ref 72), (1, .int v1), (2, .int v2), (3, .int v3), (4, .int x4)] dX10_sheet_60 rfl (by rw [qx4]; rfl) (by decide) rfl ?_
    refine e_goto (pc := 63) g 40 dX10_sheet_63 (by decide) ?_
    exact h
set_option maxHeartbeats 4000000 in
set_option maxRecDepth 100000 in
theorem b_X10_lay_0 {G : GC} {n : Nat} {r : Option Value} {M' : MM} (g : Good G mX10_lay n) (gr : GoodR G r M') (hn : 3 ≤ n) (a1 : Int32) (a2 : Int32) (a3 : Int32)   (M : MM) (h : (∃ (r3 : Int32) (M1 : MM), Fn 2 mX10_isSheet [.int a1, .int 0] M (some (.int r3)) M1 ∧ ((¬ r3 = (0 : Int32) → (vp_in a1 4) ∧ ((¬ (M1.1 104 a1.toNatClampNeg) = ((-4) : Int32) → (∃ (r9 : Int32) (M7 : MM), Fn 1 mX10_in [.long (a2.toInt64), .long 0, .long (((M1.1 105 a1.toNatClampNeg) - 1).toInt64)] M1 (some (.int r9)) M7 ∧ ((¬ r9 = (0 : Int32) → ((¬ (M7.1 104 a1.toNatClampNeg) = (0 : Int32) → ((¬ (M7.1 104 a1.toNatClampNeg) = (1 : Int32) → (vp_in ((60 * a1) + a2) 240) ∧ (∀ M14 : MM, M14 = ui M7 106 ((60 * a1) + a2).toNatClampNeg a3 → (r = some (.int 1) ∧ M' = M14))) ∧ ((M7.1 104 a1.toNatClampNeg) = (1 : Int32) → (vp_in ((60 * a1) + a2) 240) ∧ (∀ M16 : MM, M16 = ui M7 106 ((60 * a1) + a2).toNatClampNeg (a3.toInt16.toInt32) → (r = some (.int 1) ∧ M' = M16))))) ∧ ((M7.1 104 a1.toNatClampNeg) = (0 : Int32) → (vp_in ((60 * a1) + a2) 240) ∧ (∀ M18 : MM, M18 = ui M7 106 ((60 * a1) + a2).toNatClampNeg (a3.toInt8.toInt32) → (r = some (.int 1) ∧ M' = M18))))) ∧ (r9 = (0 : Int32) → (r = some (.int (-12)) ∧ M' = M7))))) ∧ ((M1.1 104 a1.toNatClampNeg) = ((-4) : Int32) → (r = some (.int (-11)) ∧ M' = M1)))) ∧ (r3 = (0 : Int32) → (r = some (.int (-1)) ∧ M' = M1))))) : Ev G 0 [(0, .ref 72), (1, .int a1), (2, .int a2), (3, .int a3)] [] M := by
  refine e_iload_n (pc := 0) g 1 dX10_lay_0 rfl ?_
  refine e_iconst (pc := 1) g 0 dX10_lay_1 kc_0 ?_
  obtain ⟨r3, M1, f2, h⟩ := h
  refine e_callS (As := [.int a1, .int 0]) (S := []) (pc := 2) g ok_X10_isSheet ml_X10_247 f2 (by omega) rfl (Nat.le_of_ble_eq_true rfl) dX10_lay_2 ?_
  refine e_to (S' := [.int r3]) rfl rfl rfl ?_
  refine e_if_ne (pc := 5) g 10 dX10_lay_5 (by decide) (fun c4 => ?_) (fun c4 => ?_)
  · have h := h.1 c4
    refine e_aload_n (pc := 10) g 0 dX10_lay_10 rfl ?_
    refine e_getR (pc := 11) g 104 fl_X10_104 sh_72 rfl dX10_lay_11 ?_
    refine e_iload_n (pc := 14) g 1 dX10_lay_14 rfl ?_
    obtain ⟨o5, h⟩ := h
    refine e_iald (pc := 15) g sh_104 o5 dX10_lay_15 ?_
    refine e_bipush (pc := 16) g (-4) dX10_lay_16 kb_m4 ?_
    refine e_icmp_ne (pc := 18) g 24 dX10_lay_18 (by decide) (fun c6 => ?_) (fun c6 => ?_)
    · have h := h.1 c6
      refine e_iload_n (pc := 24) g 2 dX10_lay_24 rfl ?_
      refine e_i2l (pc := 25) g dX10_lay_25 ?_
      refine e_lconst (pc := 26) g 0 dX10_lay_26 kl_0 ?_
      refine e_aload_n (pc := 27) g 0 dX10_lay_27 rfl ?_
      refine e_getR (pc := 28) g 105 fl_X10_107 sh_72 rfl dX10_lay_28 ?_
      refine e_iload_n (pc := 31) g 1 dX10_lay_31 rfl ?_
      refine e_iald (pc := 32) g sh_105 o5 dX10_lay_32 ?_
      refine e_iconst (pc := 33) g 1 dX10_lay_33 kc_1 ?_
      refine e_isub (pc := 34) g dX10_lay_34 ?_
      refine e_i2l (pc := 35) g dX10_lay_35 ?_
      obtain ⟨r9, M7, f8, h⟩ := h
      refine e_callS (As := [.long (a2.toInt64), .long 0, .long (((M1.1 105 a1.toNatClampNeg) - 1).toInt64)]) (S := []) (pc := 36) g ok_X10_in ml_X10_117 f8 (by omega) rfl (Nat.le_of_ble_eq_true rfl) dX10_lay_36 ?_
      refine e_to (S' := [.int r9]) rfl rfl rfl ?_
      refine e_if_ne (pc := 39) g 45 dX10_lay_39 (by decide) (fun c10 => ?_) (fun c10 => ?_)
      · have h := h.1 c10
        refine e_aload_n (pc := 45) g 0 dX10_lay_45 rfl ?_
        refine e_getR (pc := 46) g 106 fl_X10_110 sh_72 rfl dX10_lay_46 ?_
        refine e_bipush (pc := 49) g 60 dX10_lay_49 kb_60 ?_
        refine e_iload_n (pc := 51) g 1 dX10_lay_51 rfl ?_
        refine e_imul (pc := 52) g dX10_lay_52 ?_
        refine e_iload_n (pc := 53) g 2 dX10_lay_53 rfl ?_
        refine e_iadd (pc := 54) g dX10_lay_54 ?_
        refine e_aload_n (pc := 55) g 0 dX10_lay_55 rfl ?_
        refine e_getR (pc := 56) g 104 fl_X10_104 sh_72 rfl dX10_lay_56 ?_
        refine e_iload_n (pc := 59) g 1 dX10_lay_59 rfl ?_
        refine e_iald (pc := 60) g sh_104 o5 dX10_lay_60 ?_
        refine e_if_ne (pc := 61) g 69 dX10_lay_61 (by decide) (fun c11 => ?_) (fun c11 => ?_)
        · have h := h.1 c11
          refine e_aload_n (pc := 69) g 0 dX10_lay_69 rfl ?_
          refine e_getR (pc := 70) g 104 fl_X10_104 sh_72 rfl dX10_lay_70 ?_
          refine e_iload_n (pc := 73) g 1 dX10_lay_73 rfl ?_
          refine e_iald (pc := 74) g sh_104 o5 dX10_lay_74 ?_
          refine e_iconst (pc := 75) g 1 dX10_lay_75 kc_1 ?_
          refine e_icmp_ne (pc := 76) g 84 dX10_lay_76 (by decide) (fun c12 => ?_) (fun c12 => ?_)
          · have h := h.1 c12
            refine e_iload_n (pc := 84) g 3 dX10_lay_84 rfl ?_
            obtain ⟨o13, h⟩ := h
            refine e_iast (pc := 85) g sh_106 o13 dX10_lay_85 ?_
            obtain ⟨M14, qM14⟩ : ∃ y : MM, y = ui M7 106 ((60 * a1) + a2).toNatClampNeg a3 := ⟨_, rfl⟩
            have h := h M14 qM14
            refine e_to (M' := M14) rfl rfl (by rw [qM14]) ?_
            refine e_iconst (pc := 86) g 1 dX10_lay_86 kc_1 ?_
            exact e_iret (pc := 87) g gr rfl dX10_lay_87 h
          · have h := h.2 c12
            refine e_iload_n (pc := 79) g 3 dX10_lay_79 rfl ?_
            refine e_i2s (pc := 80) g dX10_lay_80 ?_
            refine e_goto (pc := 81) g 85 dX10_lay_81 (by decide) ?_
            obtain ⟨o15, h⟩ := h
            refine e_iast (pc := 85) g sh_106 o15 dX10_lay_85 ?_
            obtain ⟨M16, qM16⟩ : ∃ y : MM, y = ui M7 106 ((60 * a1) + a2).toNatClampNeg (a3.toInt16.toInt32) := ⟨_, rfl⟩
            have h := h M16 qM16
            refine e_to (M' := M16) rfl rfl (by rw [qM16]) ?_
            refine e_iconst (pc := 86) g 1 dX10_lay_86 kc_1 ?_
            exact e_iret (pc := 87) g gr rfl dX10_lay_87 h
        · have h := h.2 c11
          refine e_iload_n (pc := 64) g 3 dX10_lay_64 rfl ?_
          refine e_i2b (pc := 65) g dX10_lay_65 ?_
          refine e_goto (pc := 66) g 85 dX10_lay_66 (by decide) ?_
          obtain ⟨o17, h⟩ := h
          refine e_iast (pc := 85) g sh_106 o17 dX10_lay_85 ?_
          obtain ⟨M18, qM18⟩ : ∃ y : MM, y = ui M7 106 ((60 * a1) + a2).toNatClampNeg (a3.toInt8.toInt32) := ⟨_, rfl⟩
          have h := h M18 qM18
          refine e_to (M' := M18) rfl rfl (by rw [qM18]) ?_
          refine e_iconst (pc := 86) g 1 dX10_lay_86 kc_1 ?_
          exact e_iret (pc := 87) g gr rfl dX10_lay_87 h
      · have h := h.2 c10
        refine e_bipush (pc := 42) g (-12) dX10_lay_42 kb_m12 ?_
        exact e_iret (pc := 44) g gr rfl dX10_lay_44 h
    · have h := h.2 c6
      refine e_bipush (pc := 21) g (-11) dX10_lay_21 kb_m11 ?_
      exact e_iret (pc := 23) g gr rfl dX10_lay_23 h
  · have h := h.2 c4
    refine e_iconst (pc := 8) g (-1) dX10_lay_8 kc_m1 ?_
    exact e_iret (pc := 9) g gr rfl dX10_lay_9 h
set_option maxHeartbeats 4000000 in
set_option maxRecDepth 100000 in
theorem b_X10_bars_0 {G : GC} {n : Nat} {r : Option Value} {M' : MM} (g : Good G mX10_bars n) (gr : GoodR G r M') (hn : 2 ≤ n) (a1 : Int32) (a2 : Int32) (a3 : Int32) (a4 : Int32) (a5 : Int32)   (M : MM) (h : (∀ x1 : Int64, x1 = ((a2.toInt64) + (a3.toInt64)) → ((x1 < (0 : Int64) → (r = some (.int (-12)) ∧ M' = M)) ∧ (¬ (x1 < (0 : Int64)) → (vp_in a1 4) ∧ ((x1 < (((M.1 105 a1.toNatClampNeg).toInt64) : Int64) → (vp_in ((60 * a1) + (x1.toInt32)) 240) ∧ (∃ (r8 : Int32) (M6 : MM), Fn 1 mX10_in [.long ((M.1 106 ((60 * a1) + (x1.toInt32)).toNatClampNeg).toInt64), .long (a4.toInt64), .long (a5.toInt64)] M (some (.int r8)) M6 ∧ (r = some (.int (if r8 = (0 : Int32) then ((-20) - a3) else 0)) ∧ M' = M6))) ∧ (¬ (x1 < (((M.1 105 a1.toNatClampNeg).toInt64) : Int64)) → (r = some (.int (-12)) ∧ M' = M))))))) : Ev G 0 [(0, .ref 72), (1, .int a1), (2, .int a2), (3, .int a3), (4, .int a4), (5, .int a5)] [] M := by
  refine e_iload_n (pc := 0) g 2 dX10_bars_0 rfl ?_
  refine e_i2l (pc := 1) g dX10_bars_1 ?_
  refine e_iload_n (pc := 2) g 3 dX10_bars_2 rfl ?_
  refine e_i2l (pc := 3) g dX10_bars_3 ?_
  refine e_ladd (pc := 4) g dX10_bars_4 ?_
  obtain ⟨x1, qx1⟩ : ∃ y : Int64, y = ((a2.toInt64) + (a3.toInt64)) := ⟨_, rfl⟩
  have h := h x1 qx1
  refine e_to (S' := [.long x1]) rfl (by rw [qx1]) rfl ?_
  refine e_lstore (pc := 5) g [(0, .ref 72), (1, .int a1), (2, .int a2), (3, .int a3), (4, .int a4), (5, .int a5), (6, .long x1)] dX10_bars_5 (by decide) rfl ?_
  refine e_lload (pc := 7) g 6 dX10_bars_7 rfl ?_
  refine e_lconst (pc := 9) g 0 dX10_bars_9 kl_0 ?_
  refine e_lcmp (pc := 10) g dX10_bars_10 ?_
  refine e_if_lt (pc := 11) g 27 dX10_bars_11 (by decide) (fun c2 => ?_) (fun c2 => ?_)
  · have h := h.1 (lc_lt.mp c2)
    refine e_bipush (pc := 27) g (-12) dX10_bars_27 kb_m12 ?_
    exact e_iret (pc := 29) g gr rfl dX10_bars_29 h
  · have h := h.2 (fun z => c2 (lc_lt.mpr z))
    refine e_lload (pc := 14) g 6 dX10_bars_14 rfl ?_
    refine e_aload_n (pc := 16) g 0 dX10_bars_16 rfl ?_
    refine e_getR (pc := 17) g 105 fl_X10_107 sh_72 rfl dX10_bars_17 ?_
    refine e_iload_n (pc := 20) g 1 dX10_bars_20 rfl ?_
    obtain ⟨o3, h⟩ := h
    refine e_iald (pc := 21) g sh_105 o3 dX10_bars_21 ?_
    refine e_i2l (pc := 22) g dX10_bars_22 ?_
    refine e_lcmp (pc := 23) g dX10_bars_23 ?_
    refine e_if_lt (pc := 24) g 30 dX10_bars_24 (by decide) (fun c4 => ?_) (fun c4 => ?_)
    · have h := h.1 (lc_lt.mp c4)
      refine e_aload_n (pc := 30) g 0 dX10_bars_30 rfl ?_
      refine e_getR (pc := 31) g 106 fl_X10_110 sh_72 rfl dX10_bars_31 ?_
      refine e_bipush (pc := 34) g 60 dX10_bars_34 kb_60 ?_
      refine e_iload_n (pc := 36) g 1 dX10_bars_36 rfl ?_
      refine e_imul (pc := 37) g dX10_bars_37 ?_
      refine e_lload (pc := 38) g 6 dX10_bars_38 rfl ?_
      refine e_l2i (pc := 40) g dX10_bars_40 ?_
      refine e_iadd (pc := 41) g dX10_bars_41 ?_
      obtain ⟨o5, h⟩ := h
      refine e_iald (pc := 42) g sh_106 o5 dX10_bars_42 ?_
      refine e_i2l (pc := 43) g dX10_bars_43 ?_
      refine e_iload (pc := 44) g 4 dX10_bars_44 rfl ?_
      refine e_i2l (pc := 46) g dX10_bars_46 ?_
      refine e_iload (pc := 47) g 5 dX10_bars_47 rfl ?_
      refine e_i2l (pc := 49) g dX10_bars_49 ?_
      obtain ⟨r8, M6, f7, h⟩ := h
      refine e_callS (As := [.long ((M.1 106 ((60 * a1) + (x1.toInt32)).toNatClampNeg).toInt64), .long (a4.toInt64), .long (a5.toInt64)]) (S := []) (pc := 50) g ok_X10_in ml_X10_117 f7 (by omega) rfl (Nat.le_of_ble_eq_true rfl) dX10_bars_50 ?_
      refine e_to (S' := [.int r8]) rfl rfl rfl ?_
      have hj : Ev G 64 [(0, .ref 72), (1, .int a1), (2, .int a2), (3, .int a3), (4, .int a4), (5, .int a5), (6, .long x1)] [.int (if r8 = (0 : Int32) then ((-20) - a3) else 0)] M6 := by
        exact e_iret (pc := 64) g gr rfl dX10_bars_64 h
      refine e_if_eq (pc := 53) g 60 dX10_bars_53 (by decide) (fun c9 => ?_) (fun c9 => ?_)
      · rw [if_pos c9] at hj
        refine e_bipush (pc := 60) g (-20) dX10_bars_60 kb_m20 ?_
        refine e_iload_n (pc := 62) g 3 dX10_bars_62 rfl ?_
        refine e_isub (pc := 63) g dX10_bars_63 ?_
        exact hj
      · rw [if_neg c9] at hj
        refine e_iconst (pc := 56) g 0 dX10_bars_56 kc_0 ?_
        refine e_goto (pc := 57) g 64 dX10_bars_57 (by decide) ?_
        exact hj
    · have h := h.2 (fun z => c4 (lc_lt.mpr z))
      refine e_bipush (pc := 27) g (-12) dX10_bars_27 kb_m12 ?_
      exact e_iret (pc := 29) g gr rfl dX10_bars_29 h
/-- at the cut 58 of X10_rain -/
def At_X10_rain_58 (G : GC)  (v1 : Int32) (v2 : Int32) (v3 : Int32) (v4 : Int32) (v5 : Int32) (v6 : Int32)  (M : MM) : Prop := Ev G 58 [(0, .ref 72), (1, .int v1), (2, .int v2), (3, .int v3), (4, .int v4), (5, .int v5), (6, .int v6)] [] M
set_option maxHeartbeats 4000000 in
set_option maxRecDepth 100000 in
theorem b_X10_rain_0 {G : GC} {n : Nat} {r : Option Value} {M' : MM} (g : Good G mX10_rain n) (gr : GoodR G r M') (hn : 5 ≤ n) (a1 : Int32) (a2 : Int32) (a3 : Int32) (a4 : Int32)   (M : MM) (h : (∃ (r3 : Int32) (M1 : MM), Fn 2 mX10_isSheet [.int a1, .int a2] M (some (.int r3)) M1 ∧ ((r3 = (0 : Int32) → (r = some (.int (-1)) ∧ M' = M1)) ∧ (¬ (r3 = (0 : Int32)) → (∃ (r7 : Int32) (M5 : MM), Fn 1 mX10_in [.long (a4.toInt64), .long 0, .long 24] M1 (some (.int r7)) M5 ∧ ((¬ r7 = (0 : Int32) → (vp_in a1 4) ∧ (((M5.1 104 a1.toNatClampNeg) = (a2 : Int32) → At_X10_rain_58 G a1 a2 a3 a4 0 0 M5) ∧ (¬ ((M5.1 104 a1.toNatClampNeg) = (a2 : Int32)) → (r = some (.int (if (M5.1 104 a1.toNatClampNeg) = ((-4) : Int32) then (-11) else (-13))) ∧ M' = M5)))) ∧ (r7 = (0 : Int32) → (r = some (.int (-1)) ∧ M' = M5)))))))) : Ev G 0 [(0, .ref 72), (1, .int a1), (2, .int a2), (3, .int a3), (4, .int a4)] [] M := by
  refine e_iload_n (pc := 0) g 1 dX10_rain_0 rfl ?_
  refine e_iload_n (pc := 1) g 2 dX10_rain_1 rfl ?_
  obtain ⟨r3, M1, f2, h⟩ := h
  refine e_callS (As := [.int a1, .int a2]) (S := []) (pc := 2) g ok_X10_isSheet ml_X10_247 f2 (by omega) rfl (Nat.le_of_ble_eq_true rfl) dX10_rain_2 ?_
  refine e_to (S' := [.int r3]) rfl rfl rfl ?_
  refine e_if_eq (pc := 5) g 21 dX10_rain_5 (by decide) (fun c4 => ?_) (fun c4 => ?_)
  · have h := h.1 c4
    refine e_iconst (pc := 21) g (-1) dX10_rain_21 kc_m1 ?_
    exact e_iret (pc := 22) g gr rfl dX10_rain_22 h
  · have h := h.2 c4
    refine e_iload (pc := 8) g 4 dX10_rain_8 rfl ?_
    refine e_i2l (pc := 10) g dX10_rain_10 ?_
    refine e_lconst (pc := 11) g 0 dX10_rain_11 kl_0 ?_
    refine e_ldc2 (pc := 12) g 24 kl_X10_250 dX10_rain_12 ?_
    obtain ⟨r7, M5, f6, h⟩ := h
    refine e_callS (As := [.long (a4.toInt64), .long 0, .long 24]) (S := []) (pc := 15) g ok_X10_in ml_X10_117 f6 (by omega) rfl (Nat.le_of_ble_eq_true rfl) dX10_rain_15 ?_
    refine e_to (S' := [.int r7]) rfl rfl rfl ?_
    refine e_if_ne (pc := 18) g 23 dX10_rain_18 (by decide) (fun c8 => ?_) (fun c8 => ?_)
    · have h := h.1 c8
      refine e_aload_n (pc := 23) g 0 dX10_rain_23 rfl ?_
      refine e_getR (pc := 24) g 104 fl_X10_104 sh_72 rfl dX10_rain_24 ?_
      refine e_iload_n (pc := 27) g 1 dX10_rain_27 rfl ?_
      obtain ⟨o9, h⟩ := h
      refine e_iald (pc := 28) g sh_104 o9 dX10_rain_28 ?_
      refine e_iload_n (pc := 29) g 2 dX10_rain_29 rfl ?_
      refine e_icmp_eq (pc := 30) g 52 dX10_rain_30 (by decide) (fun c10 => ?_) (fun c10 => ?_)
      · have h := h.1 c10
        refine e_iconst (pc := 52) g 0 dX10_rain_52 kc_0 ?_
        refine e_istore (pc := 53) g [(0, .ref 72), (1, .int a1), (2, .int a2), (3, .int a3), (4, .int a4), (5, .int 0)] dX10_rain_53 (by decide) rfl ?_
        refine e_iconst (pc := 55) g 0 dX10_rain_55 kc_0 ?_
        refine e_istore (pc := 56) g [(0, .ref 72), (1, .int a1), (2, .int a2), (3, .int a3), (4, .int a4), (5, .int 0), (6, .int 0)] dX10_rain_56 (by decide) rfl ?_
        exact h
      · have h := h.2 c10
        refine e_aload_n (pc := 33) g 0 dX10_rain_33 rfl ?_
        refine e_getR (pc := 34) g 104 fl_X10_104 sh_72 rfl dX10_rain_34 ?_
        refine e_iload_n (pc := 37) g 1 dX10_rain_37 rfl ?_
        refine e_iald (pc := 38) g sh_104 o9 dX10_rain_38 ?_
        refine e_bipush (pc := 39) g (-4) dX10_rain_39 kb_m4 ?_
        have hj : Ev G 51 [(0, .ref 72), (1, .int a1), (2, .int a2), (3, .int a3), (4, .int a4)] [.int (if (M5.1 104 a1.toNatClampNeg) = ((-4) : Int32) then (-11) else (-13))] M5 := by
          exact e_iret (pc := 51) g gr rfl dX10_rain_51 h
        refine e_icmp_ne (pc := 41) g 49 dX10_rain_41 (by decide) (fun c11 => ?_) (fun c11 => ?_)
        · rw [if_neg c11] at hj
          refine e_bipush (pc := 49) g (-13) dX10_rain_49 kb_m13 ?_
          exact hj
        · rw [if_pos c11] at hj
          refine e_bipush (pc := 44) g (-11) dX10_rain_44 kb_m11 ?_
          refine e_goto (pc := 46) g 51 dX10_rain_46 (by decide) ?_
          exact hj
    · have h := h.2 c8
      refine e_iconst (pc := 21) g (-1) dX10_rain_21 kc_m1 ?_
      exact e_iret (pc := 22) g gr rfl dX10_rain_22 h
set_option maxHeartbeats 4000000 in
set_option maxRecDepth 100000 in
theorem b_X10_rain_58 {G : GC} {n : Nat} {r : Option Value} {M' : MM} (g : Good G mX10_rain n) (gr : GoodR G r M') (hn : 5 ≤ n)  (v1 : Int32) (v2 : Int32) (v3 : Int32) (v4 : Int32) (v5 : Int32) (v6 : Int32)  (M : MM) (h : (((v4 : Int32) ≤ v6 → (r = some (.int v5) ∧ M' = M)) ∧ (¬ ((v4 : Int32) ≤ v6) → (∃ (r4 : Int32) (M2 : MM), Fn 2 mX10_bars [.ref 72, .int v1, .int v3, .int v6, .int 0, .int 100] M (some (.int r4)) M2 ∧ (((0 : Int32) ≤ r4 → (vp_in (((60 * v1) + v3) + v6) 240) ∧ (∃ (r9 : Int32) (M7 : MM), Fn 4 mX10_steps [.ref 72, .int (M2.1 106 (((60 * v1) + v3) + v6).toNatClampNeg)] M2 (some (.int r9)) M7 ∧ (∀ x10 : Int32, x10 = v6 + 1 → At_X10_rain_58 G v1 v2 v3 v4 r9 x10 M7))) ∧ (¬ ((0 : Int32) ≤ r4) → (r = some (.int r4) ∧ M' = M2))))))) : At_X10_rain_58 G v1 v2 v3 v4 v5 v6 M := by
  unfold At_X10_rain_58
  refine e_iload (pc := 58) g 6 dX10_rain_58 rfl ?_
  refine e_iload (pc := 60) g 4 dX10_rain_60 rfl ?_
  refine e_icmp_ge (pc := 62) g 112 dX10_rain_62 (by decide) (fun c1 => ?_) (fun c1 => ?_)
  · have h := h.1 c1
    refine e_iload (pc := 112) g 5 dX10_rain_112 rfl ?_
    exact e_iret (pc := 114) g gr rfl dX10_rain_114 h
  · have h := h.2 c1
    refine e_aload_n (pc := 65) g 0 dX10_rain_65 rfl ?_
    refine e_iload_n (pc := 66) g 1 dX10_rain_66 rfl ?_
    refine e_iload_n (pc := 67) g 3 dX10_rain_67 rfl ?_
    refine e_iload (pc := 68) g 6 dX10_rain_68 rfl ?_
    refine e_iconst (pc := 70) g 0 dX10_rain_70 kc_0 ?_
    refine e_bipush (pc := 71) g 100 dX10_rain_71 kb_100 ?_
    obtain ⟨r4, M2, f3, h⟩ := h
    refine e_callV (As := [.int v1, .int v3, .int v6, .int 0, .int 100]) (S := []) (pc := 73) g ok_X10_bars ml_X10_252 sh_72 ⟨_, rfl, rfl⟩ f3 (by omega) rfl (Nat.le_of_ble_eq_true rfl) dX10_rain_73 ?_
    refine e_to (S' := [.int r4]) rfl rfl rfl ?_
    refine e_istore (pc := 76) g [(0, .ref 72), (1, .int v1), (2, .int v2), (3, .int v3), (4, .int v4), (5, .int v5), (6, .int v6), (7, .int r4)] dX10_rain_76 (by decide) rfl ?_
    refine e_iload (pc := 78) g 7 dX10_rain_78 rfl ?_
    refine e_if_ge (pc := 80) g 86 dX10_rain_80 (by decide) (fun c5 => ?_) (fun c5 => ?_)
    · have h := h.1 c5
      refine e_aload_n (pc := 86) g 0 dX10_rain_86 rfl ?_
      refine e_aload_n (pc := 87) g 0 dX10_rain_87 rfl ?_
      refine e_getR (pc := 88) g 106 fl_X10_110 sh_72 rfl dX10_rain_88 ?_
      refine e_bipush (pc := 91) g 60 dX10_rain_91 kb_60 ?_
      refine e_iload_n (pc := 93) g 1 dX10_rain_93 rfl ?_
      refine e_imul (pc := 94) g dX10_rain_94 ?_
      refine e_iload_n (pc := 95) g 3 dX10_rain_95 rfl ?_
      refine e_iadd (pc := 96) g dX10_rain_96 ?_
      refine e_iload (pc := 97) g 6 dX10_rain_97 rfl ?_
      refine e_iadd (pc := 99) g dX10_rain_99 ?_
      obtain ⟨o6, h⟩ := h
      refine e_iald (pc := 100) g sh_106 o6 dX10_rain_100 ?_
      obtain ⟨r9, M7, f8, h⟩ := h
      refine e_callV (As := [.int (M2.1 106 (((60 * v1) + v3) + v6).toNatClampNeg)]) (S := []) (pc := 101) g ok_X10_steps ml_X10_190 sh_72 ⟨_, rfl, rfl⟩ f8 (by omega) rfl (Nat.le_of_ble_eq_true rfl) dX10_rain_101 ?_
      refine e_to (S' := [.int r9]) rfl rfl rfl ?_
      refine e_istore (pc := 104) g [(0, .ref 72), (1, .int v1), (2, .int v2), (3, .int v3), (4, .int v4), (5, .int r9), (6, .int v6), (7, .int r4)] dX10_rain_104 (by decide) rfl ?_
      obtain ⟨x10, qx10⟩ : ∃ y : Int32, y = v6 + 1 := ⟨_, rfl⟩
      have h := h x10 qx10
      refine e_iinc (pc := 106) g 6 x10 [(0, .ref 72), (1, .int v1), (2, .int v2), (3, .int v3), (4, .int v4), (5, .int r9), (6, .int x10), (7, .int r4)] dX10_rain_106 rfl (by rw [qx10]; rfl) (by decide) rfl ?_
      refine e_goto (pc := 109) g 58 dX10_rain_109 (by decide) ?_
      refine e_sub [(0, .ref 72), (1, .int v1), (2, .int v2), (3, .int v3), (4, .int v4), (5, .int r9), (6, .int x10)] [0, 1, 2, 3, 4, 5, 6] rfl ?_
      exact h
    · have h := h.2 c5
      refine e_iload (pc := 83) g 7 dX10_rain_83 rfl ?_
      exact e_iret (pc := 85) g gr rfl dX10_rain_85 h
/-- at the cut 42 of X10_tides -/
def At_X10_tides_42 (G : GC)  (v1 : Int32) (v2 : Int32) (v3 : Int32) (v4 : Int32)  (M : MM) : Prop := Ev G 42 [(0, .ref 72), (1, .int v1), (2, .int v2), (3, .int v3), (4, .int v4)] [] M
set_option maxHeartbeats 4000000 in
set_option maxRecDepth 100000 in
theorem b_X10_tides_0 {G : GC} {n : Nat} {r : Option Value} {M' : MM} (g : Good G mX10_tides n) (gr : GoodR G r M') (hn : 3 ≤ n) (a1 : Int32) (a2 : Int32) (a3 : Int32)   (M : MM) (h : (∃ (r3 : Int32) (M1 : MM), Fn 2 mX10_isSheet [.int a1, .int a2] M (some (.int r3)) M1 ∧ ((¬ r3 = (0 : Int32) → (vp_in a1 4) ∧ (((M1.1 104 a1.toNatClampNeg) = (a2 : Int32) → At_X10_tides_42 G a1 a2 a3 0 M1) ∧ (¬ ((M1.1 104 a1.toNatClampNeg) = (a2 : Int32)) → (r = some (.int (if (M1.1 104 a1.toNatClampNeg) = ((-4) : Int32) then (-11) else (-13))) ∧ M' = M1)))) ∧ (r3 = (0 : Int32) → (r = some (.int (-1)) ∧ M' = M1))))) : Ev G 0 [(0, .ref 72), (1, .int a1), (2, .int a2), (3, .int a3)] [] M := by
  refine e_iload_n (pc := 0) g 1 dX10_tides_0 rfl ?_
  refine e_iload_n (pc := 1) g 2 dX10_tides_1 rfl ?_
  obtain ⟨r3, M1, f2, h⟩ := h
  refine e_callS (As := [.int a1, .int a2]) (S := []) (pc := 2) g ok_X10_isSheet ml_X10_247 f2 (by omega) rfl (Nat.le_of_ble_eq_true rfl) dX10_tides_2 ?_
  refine e_to (S' := [.int r3]) rfl rfl rfl ?_
  refine e_if_ne (pc := 5) g 10 dX10_tides_5 (by decide) (fun c4 => ?_) (fun c4 => ?_)
  · have h := h.1 c4
    refine e_aload_n (pc := 10) g 0 dX10_tides_10 rfl ?_
    refine e_getR (pc := 11) g 104 fl_X10_104 sh_72 rfl dX10_tides_11 ?_
    refine e_iload_n (pc := 14) g 1 dX10_tides_14 rfl ?_
    obtain ⟨o5, h⟩ := h
    refine e_iald (pc := 15) g sh_104 o5 dX10_tides_15 ?_
    refine e_iload_n (pc := 16) g 2 dX10_tides_16 rfl ?_
    refine e_icmp_eq (pc := 17) g 39 dX10_tides_17 (by decide) (fun c6 => ?_) (fun c6 => ?_)
    · have h := h.1 c6
      refine e_iconst (pc := 39) g 0 dX10_tides_39 kc_0 ?_
      refine e_istore (pc := 40) g [(0, .ref 72), (1, .int a1), (2, .int a2), (3, .int a3), (4, .int 0)] dX10_tides_40 (by decide) rfl ?_
      exact h
    · have h := h.2 c6
      refine e_aload_n (pc := 20) g 0 dX10_tides_20 rfl ?_
      refine e_getR (pc := 21) g 104 fl_X10_104 sh_72 rfl dX10_tides_21 ?_
      refine e_iload_n (pc := 24) g 1 dX10_tides_24 rfl ?_
      refine e_iald (pc := 25) g sh_104 o5 dX10_tides_25 ?_
      refine e_bipush (pc := 26) g (-4) dX10_tides_26 kb_m4 ?_
      have hj : Ev G 38 [(0, .ref 72), (1, .int a1), (2, .int a2), (3, .int a3)] [.int (if (M1.1 104 a1.toNatClampNeg) = ((-4) : Int32) then (-11) else (-13))] M1 := by
        exact e_iret (pc := 38) g gr rfl dX10_tides_38 h
      refine e_icmp_ne (pc := 28) g 36 dX10_tides_28 (by decide) (fun c7 => ?_) (fun c7 => ?_)
      · rw [if_neg c7] at hj
        refine e_bipush (pc := 36) g (-13) dX10_tides_36 kb_m13 ?_
        exact hj
      · rw [if_pos c7] at hj
        refine e_bipush (pc := 31) g (-11) dX10_tides_31 kb_m11 ?_
        refine e_goto (pc := 33) g 38 dX10_tides_33 (by decide) ?_
        exact hj
  · have h := h.2 c4
    refine e_iconst (pc := 8) g (-1) dX10_tides_8 kc_m1 ?_
    exact e_iret (pc := 9) g gr rfl dX10_tides_9 h
/-- at the cut 82 of X10_tides -/
def At_X10_tides_82 (G : GC)  (v1 : Int32) (v2 : Int32) (v3 : Int32) (v4 : Int32)  (M : MM) : Prop := Ev G 82 [(0, .ref 72), (1, .int v1), (2, .int v2), (3, .int v3), (4, .int v4)] [] M
set_option maxHeartbeats 4000000 in
set_option maxRecDepth 100000 in
theorem b_X10_tides_42 {G : GC} {n : Nat} {r : Option Value} {M' : MM} (g : Good G mX10_tides n) (gr : GoodR G r M') (hn : 3 ≤ n)  (v1 : Int32) (v2 : Int32) (v3 : Int32) (v4 : Int32)  (M : MM) (h : (((24 : Int32) ≤ v4 → At_X10_tides_82 G v1 v2 v3 0 M) ∧ (¬ ((24 : Int32) ≤ v4) → (∃ (r4 : Int32) (M2 : MM), Fn 2 mX10_bars [.ref 72, .int v1, .int v3, .int v4, .int (-500), .int 500] M (some (.int r4)) M2 ∧ (((0 : Int32) ≤ r4 → (∀ x6 : Int32, x6 = v4 + 1 → At_X10_tides_42 G v1 v2 v3 x6 M2)) ∧ (¬ ((0 : Int32) ≤ r4) → (r = some (.int r4) ∧ M' = M2))))))) : At_X10_tides_42 G v1 v2 v3 v4 M := by
  unfold At_X10_tides_42
  refine e_iload (pc := 42) g 4 dX10_tides_42 rfl ?_
  refine e_bipush (pc := 44) g 24 dX10_tides_44 kb_24 ?_
  refine e_icmp_ge (pc := 46) g 79 dX10_tides_46 (by decide) (fun c1 => ?_) (fun c1 => ?_)
  · have h := h.1 c1
    refine e_iconst (pc := 79) g 0 dX10_tides_79 kc_0 ?_
    refine e_istore (pc := 80) g [(0, .ref 72), (1, .int v1), (2, .int v2), (3, .int v3), (4, .int 0)] dX10_tides_80 (by decide) rfl ?_
    exact h
  · have h := h.2 c1
    refine e_aload_n (pc := 49) g 0 dX10_tides_49 rfl ?_
    refine e_iload_n (pc := 50) g 1 dX10_tides_50 rfl ?_
    refine e_iload_n (pc := 51) g 3 dX10_tides_51 rfl ?_
    refine e_iload (pc := 52) g 4 dX10_tides_52 rfl ?_
    refine e_sipush (pc := 54) g (-500) dX10_tides_54 ks_m500 ?_
    refine e_sipush (pc := 57) g 500 dX10_tides_57 ks_500 ?_
    obtain ⟨r4, M2, f3, h⟩ := h
    refine e_callV (As := [.int v1, .int v3, .int v4, .int (-500), .int 500]) (S := []) (pc := 60) g ok_X10_bars ml_X10_252 sh_72 ⟨_, rfl, rfl⟩ f3 (by omega) rfl (Nat.le_of_ble_eq_true rfl) dX10_tides_60 ?_
    refine e_to (S' := [.int r4]) rfl rfl rfl ?_
    refine e_istore (pc := 63) g [(0, .ref 72), (1, .int v1), (2, .int v2), (3, .int v3), (4, .int v4), (5, .int r4)] dX10_tides_63 (by decide) rfl ?_
    refine e_iload (pc := 65) g 5 dX10_tides_65 rfl ?_
    refine e_if_ge (pc := 67) g 73 dX10_tides_67 (by decide) (fun c5 => ?_) (fun c5 => ?_)
    · have h := h.1 c5
      obtain ⟨x6, qx6⟩ : ∃ y : Int32, y = v4 + 1 := ⟨_, rfl⟩
      have h := h x6 qx6
      refine e_iinc (pc := 73) g 4 x6 [(0, .ref 72), (1, .int v1), (2, .int v2), (3, .int v3), (4, .int x6), (5, .int r4)] dX10_tides_73 rfl (by rw [qx6]; rfl) (by decide) rfl ?_
      refine e_goto (pc := 76) g 42 dX10_tides_76 (by decide) ?_
      refine e_sub [(0, .ref 72), (1, .int v1), (2, .int v2), (3, .int v3), (4, .int x6)] [0, 1, 2, 3, 4] rfl ?_
      exact h
    · have h := h.2 c5
      refine e_iload (pc := 70) g 5 dX10_tides_70 rfl ?_
      exact e_iret (pc := 72) g gr rfl dX10_tides_72 h
set_option maxHeartbeats 4000000 in
set_option maxRecDepth 100000 in
theorem b_X10_tides_82 {G : GC} {n : Nat} {r : Option Value} {M' : MM} (g : Good G mX10_tides n) (gr : GoodR G r M') (hn : 3 ≤ n)  (v1 : Int32) (v2 : Int32) (v3 : Int32) (v4 : Int32)  (M : MM) (h : (((24 : Int32) ≤ v4 → (r = some (.int 1) ∧ M' = M)) ∧ (¬ ((24 : Int32) ≤ v4) → (vp_in (((60 * v1) + v3) + v4) 240) ∧ (vp_in v4 24) ∧ (∀ M4 : MM, M4 = ui M 94 v4.toNatClampNeg (M.1 106 (((60 * v1) + v3) + v4).toNatClampNeg) → (∀ x5 : Int32, x5 = v4 + 1 → At_X10_tides_82 G v1 v2 v3 x5 M4))))) : At_X10_tides_82 G v1 v2 v3 v4 M := by
  unfold At_X10_tides_82
  refine e_iload (pc := 82) g 4 dX10_tides_82 rfl ?_
  refine e_bipush (pc := 84) g 24 dX10_tides_84 kb_24 ?_
  refine e_icmp_ge (pc := 86) g 116 dX10_tides_86 (by decide) (fun c1 => ?_) (fun c1 => ?_)
  · have h := h.1 c1
    refine e_iconst (pc := 116) g 1 dX10_tides_116 kc_1 ?_
    exact e_iret (pc := 117) g gr rfl dX10_tides_117 h
  · have h := h.2 c1
    refine e_aload_n (pc := 89) g 0 dX10_tides_89 rfl ?_
    refine e_getR (pc := 90) g 94 fl_X10_74 sh_72 rfl dX10_tides_90 ?_
    refine e_iload (pc := 93) g 4 dX10_tides_93 rfl ?_
    refine e_aload_n (pc := 95) g 0 dX10_tides_95 rfl ?_
    refine e_getR (pc := 96) g 106 fl_X10_110 sh_72 rfl dX10_tides_96 ?_
    refine e_bipush (pc := 99) g 60 dX10_tides_99 kb_60 ?_
    refine e_iload_n (pc := 101) g 1 dX10_tides_101 rfl ?_
    refine e_imul (pc := 102) g dX10_tides_102 ?_
    refine e_iload_n (pc := 103) g 3 dX10_tides_103 rfl ?_
    refine e_iadd (pc := 104) g dX10_tides_104 ?_
    refine e_iload (pc := 105) g 4 dX10_tides_105 rfl ?_
    refine e_iadd (pc := 107) g dX10_tides_107 ?_
    obtain ⟨o2, h⟩ := h
    refine e_iald (pc := 108) g sh_106 o2 dX10_tides_108 ?_
    obtain ⟨o3, h⟩ := h
    refine e_iast (pc := 109) g sh_94 o3 dX10_tides_109 ?_
    obtain ⟨M4, qM4⟩ : ∃ y : MM, y = ui M 94 v4.toNatClampNeg (M.1 106 (((60 * v1) + v3) + v4).toNatClampNeg) := ⟨_, rfl⟩
    have h := h M4 qM4
    refine e_to (M' := M4) rfl rfl (by rw [qM4]) ?_
    obtain ⟨x5, qx5⟩ : ∃ y : Int32, y = v4 + 1 := ⟨_, rfl⟩
    have h := h x5 qx5
    refine e_iinc (pc := 110) g 4 x5 [(0, .ref 72), (1, .int v1), (2, .int v2), (3, .int v3), (4, .int x5)] dX10_tides_110 rfl (by rw [qx5]; rfl) (by decide) rfl ?_
    refine e_goto (pc := 113) g 82 dX10_tides_113 (by decide) ?_
    exact h
/-- at the cut 7 of X10_count -/
def At_X10_count_7 (G : GC)  (v1 : Int32) (v2 : Int32) (v3 : Int32) (v4 : Int32)  (M : MM) : Prop := Ev G 7 [(0, .ref 72), (1, .int v1), (2, .int v2), (3, .int v3), (4, .int v4)] [] M
set_option maxHeartbeats 4000000 in
set_option maxRecDepth 100000 in
theorem b_X10_count_0 {G : GC} {n : Nat} {r : Option Value} {M' : MM} (g : Good G mX10_count n) (gr : GoodR G r M') (hn : 4 ≤ n) (a1 : Int32)   (M : MM) (h : At_X10_count_7 G a1 0 0 0 M) : Ev G 0 [(0, .ref 72), (1, .int a1)] [] M := by
  refine e_iconst (pc := 0) g 0 dX10_count_0 kc_0 ?_
  refine e_istore_n (pc := 1) g [(0, .ref 72), (1, .int a1), (2, .int 0)] dX10_count_1 (by decide) rfl ?_
  refine e_iconst (pc := 2) g 0 dX10_count_2 kc_0 ?_
  refine e_istore_n (pc := 3) g [(0, .ref 72), (1, .int a1), (2, .int 0), (3, .int 0)] dX10_count_3 (by decide) rfl ?_
  refine e_iconst (pc := 4) g 0 dX10_count_4 kc_0 ?_
  refine e_istore (pc := 5) g [(0, .ref 72), (1, .int a1), (2, .int 0), (3, .int 0), (4, .int 0)] dX10_count_5 (by decide) rfl ?_
  exact h
/-- at the cut 43 of X10_count -/
def At_X10_count_43 (G : GC)  (v1 : Int32) (v2 : Int32) (v3 : Int32) (v4 : Int32)  (M : MM) : Prop := Ev G 43 [(0, .ref 72), (1, .int v1), (2, .int v2), (3, .int v3), (4, .int v4)] [] M
set_option maxHeartbeats 4000000 in
set_option maxRecDepth 100000 in
theorem b_X10_count_7 {G : GC} {n : Nat} {r : Option Value} {M' : MM} (g : Good G mX10_count n) (gr : GoodR G r M') (hn : 4 ≤ n)  (v1 : Int32) (v2 : Int32) (v3 : Int32) (v4 : Int32)  (M : MM) (h : ((((M.1 72 13) : Int32) ≤ v4 → At_X10_count_43 G v1 v2 v3 0 M) ∧ (¬ (((M.1 72 13) : Int32) ≤ v4) → (vp_in v4 4) ∧ (∀ x4 : Int32, x4 = (v2 + (if (M.1 89 v4.toNatClampNeg) = (0 : Int32) then 0 else 1)) → (∀ x5 : Int32, x5 = v4 + 1 → At_X10_count_7 G v1 x4 v3 x5 M))))) : At_X10_count_7 G v1 v2 v3 v4 M := by
  unfold At_X10_count_7
  refine e_iload (pc := 7) g 4 dX10_count_7 rfl ?_
  refine e_aload_n (pc := 9) g 0 dX10_count_9 rfl ?_
  refine e_getI (pc := 10) g fl_X10_154 sh_72 rfl dX10_count_10 ?_
  refine e_icmp_ge (pc := 13) g 40 dX10_count_13 (by decide) (fun c1 => ?_) (fun c1 => ?_)
  · have h := h.1 c1
    refine e_iconst (pc := 40) g 0 dX10_count_40 kc_0 ?_
    refine e_istore (pc := 41) g [(0, .ref 72), (1, .int v1), (2, .int v2), (3, .int v3), (4, .int 0)] dX10_count_41 (by decide) rfl ?_
    exact h
  · have h := h.2 c1
    refine e_iload_n (pc := 16) g 2 dX10_count_16 rfl ?_
    refine e_aload_n (pc := 17) g 0 dX10_count_17 rfl ?_
    refine e_getR (pc := 18) g 89 fl_X10_58 sh_72 rfl dX10_count_18 ?_
    refine e_iload (pc := 21) g 4 dX10_count_21 rfl ?_
    obtain ⟨o2, h⟩ := h
    refine e_zald (pc := 23) g sh_89 o2 dX10_count_23 ?_
    have hj : Ev G 32 [(0, .ref 72), (1, .int v1), (2, .int v2), (3, .int v3), (4, .int v4)] [.int (if (M.1 89 v4.toNatClampNeg) = (0 : Int32) then 0 else 1), .int v2] M := by
      refine e_iadd (pc := 32) g dX10_count_32 ?_
      obtain ⟨x4, qx4⟩ : ∃ y : Int32, y = (v2 + (if (M.1 89 v4.toNatClampNeg) = (0 : Int32) then 0 else 1)) := ⟨_, rfl⟩
      have h := h x4 qx4
      refine e_to (S' := [.int x4]) rfl (by rw [qx4]) rfl ?_
      refine e_istore_n (pc := 33) g [(0, .ref 72), (1, .int v1), (2, .int x4), (3, .int v3), (4, .int v4)] dX10_count_33 (by decide) rfl ?_
      obtain ⟨x5, qx5⟩ : ∃ y : Int32, y = v4 + 1 := ⟨_, rfl⟩
      have h := h x5 qx5
      refine e_iinc (pc := 34) g 4 x5 [(0, .ref 72), (1, .int v1), (2, .int x4), (3, .int v3), (4, .int x5)] dX10_count_34 rfl (by rw [qx5]; rfl) (by decide) rfl ?_
      refine e_goto (pc := 37) g 7 dX10_count_37 (by decide) ?_
      exact h
    refine e_if_eq (pc := 24) g 31 dX10_count_24 (by decide) (fun c3 => ?_) (fun c3 => ?_)
    · rw [if_pos c3] at hj
      refine e_iconst (pc := 31) g 0 dX10_count_31 kc_0 ?_
      exact hj
    · rw [if_neg c3] at hj
      refine e_iconst (pc := 27) g 1 dX10_count_27 kc_1 ?_
      refine e_goto (pc := 28) g 32 dX10_count_28 (by decide) ?_
      exact hj
set_option maxHeartbeats 4000000 in
set_option maxRecDepth 100000 in
theorem b_X10_count_43 {G : GC} {n : Nat} {r : Option Value} {M' : MM} (g : Good G mX10_count n) (gr : GoodR G r M') (hn : 4 ≤ n)  (v1 : Int32) (v2 : Int32) (v3 : Int32) (v4 : Int32)  (M : MM) (h : ((((M.1 72 0) : Int32) ≤ v4 → ((v1 = (0 : Int32) → (r = some (.int (M.1 72 0)) ∧ M' = M)) ∧ (v1 = (1 : Int32) → (r = some (.int (M.1 72 8)) ∧ M' = M)) ∧ (v1 = (2 : Int32) → (r = some (.int (M.1 72 13)) ∧ M' = M)) ∧ (v1 = (3 : Int32) → (r = some (.int (M.1 72 21)) ∧ M' = M)) ∧ (v1 = (4 : Int32) → (r = some (.int (M.1 72 32)) ∧ M' = M)) ∧ (v1 = (5 : Int32) → (r = some (.int (M.1 72 27)) ∧ M' = M)) ∧ (v1 = (6 : Int32) → (∃ (r4 : Int32) (M2 : MM), Fn 3 mX10_alarms [.ref 72] M (some (.int r4)) M2 ∧ (r = some (.int r4) ∧ M' = M2))) ∧ (v1 = (7 : Int32) → (r = some (.int (M.1 72 28)) ∧ M' = M)) ∧ (v1 = (8 : Int32) → (r = some (.int v2) ∧ M' = M)) ∧ (v1 = (9 : Int32) → (r = some (.int v3) ∧ M' = M)) ∧ (¬ v1 = (0 : Int32) → ¬ v1 = (1 : Int32) → ¬ v1 = (2 : Int32) → ¬ v1 = (3 : Int32) → ¬ v1 = (4 : Int32) → ¬ v1 = (5 : Int32) → ¬ v1 = (6 : Int32) → ¬ v1 = (7 : Int32) → ¬ v1 = (8 : Int32) → ¬ v1 = (9 : Int32) → (r = some (.int (-1)) ∧ M' = M)))) ∧ (¬ (((M.1 72 0) : Int32) ≤ v4) → (vp_in v4 6) ∧ (∀ x6 : Int32, x6 = (v3 + (M.1 75 v4.toNatClampNeg)) → (∀ x7 : Int32, x7 = v4 + 1 → At_X10_count_43 G v1 v2 x6 x7 M))))) : At_X10_count_43 G v1 v2 v3 v4 M := by
  unfold At_X10_count_43
  refine e_iload (pc := 43) g 4 dX10_count_43 rfl ?_
  refine e_aload_n (pc := 45) g 0 dX10_count_45 rfl ?_
  refine e_getI (pc := 46) g fl_X10_113 sh_72 rfl dX10_count_46 ?_
  refine e_icmp_ge (pc := 49) g 68 dX10_count_49 (by decide) (fun c1 => ?_) (fun c1 => ?_)
  · have h := h.1 c1
    refine e_iload_n (pc := 68) g 1 dX10_count_68 rfl ?_
    obtain ⟨h0, h1, h2, h3, h4, h5, h6, h7, h8, h9, hd⟩ := h
    by_cases cs0 : v1 = (0 : Int32)
    · have h := h0 cs0
      refine e_to (S' := [.int 0]) rfl (by rw [cs0]) rfl ?_
      refine e_tabIn (off := 55) (pc := 69) g 124 dX10_count_69 (by decide) (by decide) (by decide +kernel) (by decide) ?_
      refine e_aload_n (pc := 124) g 0 dX10_count_124 rfl ?_
      refine e_getI (pc := 125) g fl_X10_113 sh_72 rfl dX10_count_125 ?_
      exact e_iret (pc := 128) g gr rfl dX10_count_128 h
    by_cases cs1 : v1 = (1 : Int32)
    · have h := h1 cs1
      refine e_to (S' := [.int 1]) rfl (by rw [cs1]) rfl ?_
      refine e_tabIn (off := 60) (pc := 69) g 129 dX10_count_69 (by decide) (by decide) (by decide +kernel) (by decide) ?_
      refine e_aload_n (pc := 129) g 0 dX10_count_129 rfl ?_
      refine e_getI (pc := 130) g fl_X10_147 sh_72 rfl dX10_count_130 ?_
      exact e_iret (pc := 133) g gr rfl dX10_count_133 h
    by_cases cs2 : v1 = (2 : Int32)
    · have h := h2 cs2
      refine e_to (S' := [.int 2]) rfl (by rw [cs2]) rfl ?_
      refine e_tabIn (off := 65) (pc := 69) g 134 dX10_count_69 (by decide) (by decide) (by decide +kernel) (by decide) ?_
      refine e_aload_n (pc := 134) g 0 dX10_count_134 rfl ?_
      refine e_getI (pc := 135) g fl_X10_154 sh_72 rfl dX10_count_135 ?_
      exact e_iret (pc := 138) g gr rfl dX10_count_138 h
    by_cases cs3 : v1 = (3 : Int32)
    · have h := h3 cs3
      refine e_to (S' := [.int 3]) rfl (by rw [cs3]) rfl ?_
      refine e_tabIn (off := 70) (pc := 69) g 139 dX10_count_69 (by decide) (by decide) (by decide +kernel) (by decide) ?_
      refine e_aload_n (pc := 139) g 0 dX10_count_139 rfl ?_
      refine e_getI (pc := 140) g fl_X10_157 sh_72 rfl dX10_count_140 ?_
      exact e_iret (pc := 143) g gr rfl dX10_count_143 h
    by_cases cs4 : v1 = (4 : Int32)
    · have h := h4 cs4
      refine e_to (S' := [.int 4]) rfl (by rw [cs4]) rfl ?_
      refine e_tabIn (off := 75) (pc := 69) g 144 dX10_count_69 (by decide) (by decide) (by decide +kernel) (by decide) ?_
      refine e_aload_n (pc := 144) g 0 dX10_count_144 rfl ?_
      refine e_getI (pc := 145) g fl_X10_193 sh_72 rfl dX10_count_145 ?_
      exact e_iret (pc := 148) g gr rfl dX10_count_148 h
    by_cases cs5 : v1 = (5 : Int32)
    · have h := h5 cs5
      refine e_to (S' := [.int 5]) rfl (by rw [cs5]) rfl ?_
      refine e_tabIn (off := 80) (pc := 69) g 149 dX10_count_69 (by decide) (by decide) (by decide +kernel) (by decide) ?_
      refine e_aload_n (pc := 149) g 0 dX10_count_149 rfl ?_
      refine e_getI (pc := 150) g fl_X10_160 sh_72 rfl dX10_count_150 ?_
      exact e_iret (pc := 153) g gr rfl dX10_count_153 h
    by_cases cs6 : v1 = (6 : Int32)
    · have h := h6 cs6
      refine e_to (S' := [.int 6]) rfl (by rw [cs6]) rfl ?_
      refine e_tabIn (off := 85) (pc := 69) g 154 dX10_count_69 (by decide) (by decide) (by decide +kernel) (by decide) ?_
      refine e_aload_n (pc := 154) g 0 dX10_count_154 rfl ?_
      obtain ⟨r4, M2, f3, h⟩ := h
      refine e_callV (As := []) (S := []) (pc := 155) g ok_X10_alarms ml_X10_186 sh_72 ⟨_, rfl, rfl⟩ f3 (by omega) rfl (Nat.le_of_ble_eq_true rfl) dX10_count_155 ?_
      refine e_to (S' := [.int r4]) rfl rfl rfl ?_
      exact e_iret (pc := 158) g gr rfl dX10_count_158 h
    by_cases cs7 : v1 = (7 : Int32)
    · have h := h7 cs7
      refine e_to (S' := [.int 7]) rfl (by rw [cs7]) rfl ?_
      refine e_tabIn (off := 90) (pc := 69) g 159 dX10_count_69 (by decide) (by decide) (by decide +kernel) (by decide) ?_
      refine e_aload_n (pc := 159) g 0 dX10_count_159 rfl ?_
      refine e_getI (pc := 160) g fl_X10_179 sh_72 rfl dX10_count_160 ?_
      exact e_iret (pc := 163) g gr rfl dX10_count_163 h
    by_cases cs8 : v1 = (8 : Int32)
    · have h := h8 cs8
      refine e_to (S' := [.int 8]) rfl (by rw [cs8]) rfl ?_
      refine e_tabIn (off := 95) (pc := 69) g 164 dX10_count_69 (by decide) (by decide) (by decide +kernel) (by decide) ?_
      refine e_iload_n (pc := 164) g 2 dX10_count_164 rfl ?_
      exact e_iret (pc := 165) g gr rfl dX10_count_165 h
    by_cases cs9 : v1 = (9 : Int32)
    · have h := h9 cs9
      refine e_to (S' := [.int 9]) rfl (by rw [cs9]) rfl ?_
      refine e_tabIn (off := 97) (pc := 69) g 166 dX10_count_69 (by decide) (by decide) (by decide +kernel) (by decide) ?_
      refine e_iload_n (pc := 166) g 3 dX10_count_166 rfl ?_
      exact e_iret (pc := 167) g gr rfl dX10_count_167 h
    have h := hd cs0 cs1 cs2 cs3 cs4 cs5 cs6 cs7 cs8 cs9
    refine e_tabOut (pc := 69) g 168 dX10_count_69 (tab_10 cs0 cs1 cs2 cs3 cs4 cs5 cs6 cs7 cs8 cs9) (by decide) ?_
    refine e_iconst (pc := 168) g (-1) dX10_count_168 kc_m1 ?_
    exact e_iret (pc := 169) g gr rfl dX10_count_169 h
  · have h := h.2 c1
    refine e_iload_n (pc := 52) g 3 dX10_count_52 rfl ?_
    refine e_aload_n (pc := 53) g 0 dX10_count_53 rfl ?_
    refine e_getR (pc := 54) g 75 fl_X10_16 sh_72 rfl dX10_count_54 ?_
    refine e_iload (pc := 57) g 4 dX10_count_57 rfl ?_
    obtain ⟨o5, h⟩ := h
    refine e_iald (pc := 59) g sh_75 o5 dX10_count_59 ?_
    refine e_iadd (pc := 60) g dX10_count_60 ?_
    obtain ⟨x6, qx6⟩ : ∃ y : Int32, y = (v3 + (M.1 75 v4.toNatClampNeg)) := ⟨_, rfl⟩
    have h := h x6 qx6
    refine e_to (S' := [.int x6]) rfl (by rw [qx6]) rfl ?_
    refine e_istore_n (pc := 61) g [(0, .ref 72), (1, .int v1), (2, .int v2), (3, .int x6), (4, .int v4)] dX10_count_61 (by decide) rfl ?_
    obtain ⟨x7, qx7⟩ : ∃ y : Int32, y = v4 + 1 := ⟨_, rfl⟩
    have h := h x7 qx7
    refine e_iinc (pc := 62) g 4 x7 [(0, .ref 72), (1, .int v1), (2, .int v2), (3, .int x6), (4, .int x7)] dX10_count_62 rfl (by rw [qx7]; rfl) (by decide) rfl ?_
    refine e_goto (pc := 65) g 43 dX10_count_65 (by decide) ?_
    exact h

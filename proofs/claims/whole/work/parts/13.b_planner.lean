set_option maxHeartbeats 4000000 in
set_option maxRecDepth 100000 in
theorem b_X3_seek_0 {G : GC} {n : Nat} {r : Option Value} {M' : MM} (g : Good G mX3_seek n) (gr : GoodR G r M') (hn : 14 ≤ n) (a1 : Int32)   (M : MM) (h : (∀ M1 : MM, M1 = ui M 37 4 a1 → (∀ M2 : MM, M2 = ui M1 37 5 0 → (∀ M3 : MM, M3 = ul M2 37 6 0 → (∀ M4 : MM, M4 = ul M3 37 7 4611686018427387904 → (∃ M5 : MM, Fn 3 mX3_begin [.ref 37] M4 none M5 ∧ (∃ M7 : MM, Fn 13 mX3_grow [.ref 37, .int 0, .int 0, .long 0, .long 0] M5 none M7 ∧ (r = none ∧ M' = M7)))))))) : Ev G 0 [(0, .ref 37), (1, .int a1)] [] M := by
  refine e_aload_n (pc := 0) g 0 dX3_seek_0 rfl ?_
  refine e_iload_n (pc := 1) g 1 dX3_seek_1 rfl ?_
  refine e_putI (pc := 2) g fw_X3_31 sh_37 rfl dX3_seek_2 ?_
  obtain ⟨M1, qM1⟩ : ∃ y : MM, y = ui M 37 4 a1 := ⟨_, rfl⟩
  have h := h M1 qM1
  refine e_to (M' := M1) rfl rfl (by rw [qM1]) ?_
  refine e_aload_n (pc := 5) g 0 dX3_seek_5 rfl ?_
  refine e_iconst (pc := 6) g 0 dX3_seek_6 kc_0 ?_
  refine e_putI (pc := 7) g fw_X3_35 sh_37 rfl dX3_seek_7 ?_
  obtain ⟨M2, qM2⟩ : ∃ y : MM, y = ui M1 37 5 0 := ⟨_, rfl⟩
  have h := h M2 qM2
  refine e_to (M' := M2) rfl rfl (by rw [qM2]) ?_
  refine e_aload_n (pc := 10) g 0 dX3_seek_10 rfl ?_
  refine e_lconst (pc := 11) g 0 dX3_seek_11 kl_0 ?_
  refine e_putL (pc := 12) g fw_X3_38 sh_37 rfl dX3_seek_12 ?_
  obtain ⟨M3, qM3⟩ : ∃ y : MM, y = ul M2 37 6 0 := ⟨_, rfl⟩
  have h := h M3 qM3
  refine e_to (M' := M3) rfl rfl (by rw [qM3]) ?_
  refine e_aload_n (pc := 15) g 0 dX3_seek_15 rfl ?_
  refine e_ldc2 (pc := 16) g 4611686018427387904 kl_X3_42 dX3_seek_16 ?_
  refine e_putL (pc := 19) g fw_X3_44 sh_37 rfl dX3_seek_19 ?_
  obtain ⟨M4, qM4⟩ : ∃ y : MM, y = ul M3 37 7 4611686018427387904 := ⟨_, rfl⟩
  have h := h M4 qM4
  refine e_to (M' := M4) rfl rfl (by rw [qM4]) ?_
  refine e_aload_n (pc := 22) g 0 dX3_seek_22 rfl ?_
  obtain ⟨M5, f6, h⟩ := h
  refine e_callV (As := []) (S := []) (pc := 23) g ok_X3_begin ml_X3_47 sh_37 ⟨_, rfl, rfl⟩ f6 (by omega) rfl (Nat.le_of_ble_eq_true rfl) dX3_seek_23 ?_
  refine e_to (S' := []) rfl rfl rfl ?_
  refine e_aload_n (pc := 26) g 0 dX3_seek_26 rfl ?_
  refine e_iconst (pc := 27) g 0 dX3_seek_27 kc_0 ?_
  refine e_iconst (pc := 28) g 0 dX3_seek_28 kc_0 ?_
  refine e_lconst (pc := 29) g 0 dX3_seek_29 kl_0 ?_
  refine e_lconst (pc := 30) g 0 dX3_seek_30 kl_0 ?_
  obtain ⟨M7, f8, h⟩ := h
  refine e_callS (As := [.ref 37, .int 0, .int 0, .long 0, .long 0]) (S := []) (pc := 31) g ok_X3_grow ml_X3_50 f8 (by omega) rfl (Nat.le_of_ble_eq_true rfl) dX3_seek_31 ?_
  refine e_to (S' := []) rfl rfl rfl ?_
  exact e_vret (pc := 34) g gr rfl dX3_seek_34 h
/-- at the cut 48 of X3_grow -/
def At_X3_grow_48 (G : GC)  (v1 : Int32) (v2 : Int32) (v3 : Int64) (v5 : Int64) (v7 : Int32) (v8 : Int32)  (M : MM) : Prop := Ev G 48 [(0, .ref 37), (1, .int v1), (2, .int v2), (3, .long v3), (5, .long v5), (7, .int v7), (8, .int v8)] [] M
set_option maxHeartbeats 4000000 in
set_option maxRecDepth 100000 in
theorem b_X3_grow_0 {G : GC} {n : Nat} {r : Option Value} {M' : MM} (g : Good G mX3_grow n) (gr : GoodR G r M') (hn : 6 ≤ n) {n1 : Nat} (hn1 : n1 + 1 ≤ n) (a1 : Int32) (a2 : Int32) (a3 : Int64) (a5 : Int64)   (M : MM) (h : ((((M.1 37 4) : Int32) ≤ a1 → (∀ M2 : MM, M2 = ui M 37 5 a2 → (∀ M3 : MM, M3 = ul M2 37 6 a3 → (∀ M4 : MM, M4 = ul M3 37 7 a5 → (r = none ∧ M' = M4))))) ∧ (¬ (((M.1 37 4) : Int32) ≤ a1) → ((a1 < (6 : Int32) → (∃ (r8 : Int32) (M6 : MM), Fn 2 mX4_inPlans [.ref 15] M (some (.int r8)) M6 ∧ (∀ x9 : Int32, x9 = (1 <<< (r8 &&& 31)) → At_X3_grow_48 G a1 a2 a3 a5 x9 0 M6))) ∧ (¬ (a1 < (6 : Int32)) → (∀ M10 : MM, M10 = ui M 37 5 a2 → (∀ M11 : MM, M11 = ul M10 37 6 a3 → (∀ M12 : MM, M12 = ul M11 37 7 a5 → (r = none ∧ M' = M12))))))))) : Ev G 0 [(0, .ref 37), (1, .int a1), (2, .int a2), (3, .long a3), (5, .long a5)] [] M := by
  refine e_iload_n (pc := 0) g 1 dX3_grow_0 rfl ?_
  refine e_aload_n (pc := 1) g 0 dX3_grow_1 rfl ?_
  refine e_getI (pc := 2) g fl_X3_31 sh_37 rfl dX3_grow_2 ?_
  refine e_icmp_ge (pc := 5) g 14 dX3_grow_5 (by decide) (fun c1 => ?_) (fun c1 => ?_)
  · have h := h.1 c1
    refine e_aload_n (pc := 14) g 0 dX3_grow_14 rfl ?_
    refine e_iload_n (pc := 15) g 2 dX3_grow_15 rfl ?_
    refine e_putI (pc := 16) g fw_X3_35 sh_37 rfl dX3_grow_16 ?_
    obtain ⟨M2, qM2⟩ : ∃ y : MM, y = ui M 37 5 a2 := ⟨_, rfl⟩
    have h := h M2 qM2
    refine e_to (M' := M2) rfl rfl (by rw [qM2]) ?_
    refine e_aload_n (pc := 19) g 0 dX3_grow_19 rfl ?_
    refine e_lload_n (pc := 20) g 3 dX3_grow_20 rfl ?_
    refine e_putL (pc := 21) g fw_X3_38 sh_37 rfl dX3_grow_21 ?_
    obtain ⟨M3, qM3⟩ : ∃ y : MM, y = ul M2 37 6 a3 := ⟨_, rfl⟩
    have h := h M3 qM3
    refine e_to (M' := M3) rfl rfl (by rw [qM3]) ?_
    refine e_aload_n (pc := 24) g 0 dX3_grow_24 rfl ?_
    refine e_lload (pc := 25) g 4 dX3_grow_25 rfl ?_
    refine e_putL (pc := 27) g fw_X3_44 sh_37 rfl dX3_grow_27 ?_
    obtain ⟨M4, qM4⟩ : ∃ y : MM, y = ul M3 37 7 a5 := ⟨_, rfl⟩
    have h := h M4 qM4
    refine e_to (M' := M4) rfl rfl (by rw [qM4]) ?_
    exact e_vret (pc := 30) g gr rfl dX3_grow_30 h
  · have h := h.2 c1
    refine e_iload_n (pc := 8) g 1 dX3_grow_8 rfl ?_
    refine e_bipush (pc := 9) g 6 dX3_grow_9 kb_6 ?_
    refine e_icmp_lt (pc := 11) g 31 dX3_grow_11 (by decide) (fun c5 => ?_) (fun c5 => ?_)
    · have h := h.1 c5
      refine e_iconst (pc := 31) g 1 dX3_grow_31 kc_1 ?_
      refine e_aload_n (pc := 32) g 0 dX3_grow_32 rfl ?_
      refine e_getR (pc := 33) g 1 fl_X3_23 sh_37 rfl dX3_grow_33 ?_
      refine e_getR (pc := 36) g 15 fl_X3_54 sh_1 rfl dX3_grow_36 ?_
      obtain ⟨r8, M6, f7, h⟩ := h
      refine e_callV (As := []) (S := [.int 1]) (pc := 39) g ok_X4_inPlans ml_X3_60 sh_15 ⟨_, rfl, rfl⟩ f7 (by omega) rfl (Nat.le_of_ble_eq_true rfl) dX3_grow_39 ?_
      refine e_to (S' := [.int r8, .int 1]) rfl rfl rfl ?_
      refine e_ishl (pc := 42) g dX3_grow_42 ?_
      obtain ⟨x9, qx9⟩ : ∃ y : Int32, y = (1 <<< (r8 &&& 31)) := ⟨_, rfl⟩
      have h := h x9 qx9
      refine e_to (S' := [.int x9]) rfl (by rw [qx9]) rfl ?_
      refine e_istore (pc := 43) g [(0, .ref 37), (1, .int a1), (2, .int a2), (3, .long a3), (5, .long a5), (7, .int x9)] dX3_grow_43 (by decide) rfl ?_
      refine e_iconst (pc := 45) g 0 dX3_grow_45 kc_0 ?_
      refine e_istore (pc := 46) g [(0, .ref 37), (1, .int a1), (2, .int a2), (3, .long a3), (5, .long a5), (7, .int x9), (8, .int 0)] dX3_grow_46 (by decide) rfl ?_
      exact h
    · have h := h.2 c5
      refine e_aload_n (pc := 14) g 0 dX3_grow_14 rfl ?_
      refine e_iload_n (pc := 15) g 2 dX3_grow_15 rfl ?_
      refine e_putI (pc := 16) g fw_X3_35 sh_37 rfl dX3_grow_16 ?_
      obtain ⟨M10, qM10⟩ : ∃ y : MM, y = ui M 37 5 a2 := ⟨_, rfl⟩
      have h := h M10 qM10
      refine e_to (M' := M10) rfl rfl (by rw [qM10]) ?_
      refine e_aload_n (pc := 19) g 0 dX3_grow_19 rfl ?_
      refine e_lload_n (pc := 20) g 3 dX3_grow_20 rfl ?_
      refine e_putL (pc := 21) g fw_X3_38 sh_37 rfl dX3_grow_21 ?_
      obtain ⟨M11, qM11⟩ : ∃ y : MM, y = ul M10 37 6 a3 := ⟨_, rfl⟩
      have h := h M11 qM11
      refine e_to (M' := M11) rfl rfl (by rw [qM11]) ?_
      refine e_aload_n (pc := 24) g 0 dX3_grow_24 rfl ?_
      refine e_lload (pc := 25) g 4 dX3_grow_25 rfl ?_
      refine e_putL (pc := 27) g fw_X3_44 sh_37 rfl dX3_grow_27 ?_
      obtain ⟨M12, qM12⟩ : ∃ y : MM, y = ul M11 37 7 a5 := ⟨_, rfl⟩
      have h := h M12 qM12
      refine e_to (M' := M12) rfl rfl (by rw [qM12]) ?_
      exact e_vret (pc := 30) g gr rfl dX3_grow_30 h
set_option maxHeartbeats 4000000 in
set_option maxRecDepth 100000 in
theorem b_X3_grow_48 {G : GC} {n : Nat} {r : Option Value} {M' : MM} (g : Good G mX3_grow n) (gr : GoodR G r M') (hn : 6 ≤ n) {n1 : Nat} (hn1 : n1 + 1 ≤ n)  (v1 : Int32) (v2 : Int32) (v3 : Int64) (v5 : Int64) (v7 : Int32) (v8 : Int32)  (M : MM) (h : (((v7 : Int32) ≤ v8 → (r = none ∧ M' = M)) ∧ (¬ ((v7 : Int32) ≤ v8) → (∀ x2 : Int32, x2 = (v2 ||| (v8 <<< ((2 * v1) &&& 31))) → (∃ (r5 : Int32) (M3 : MM), Fn 3 mX2_cost [.ref 1, .int v8, .int ((M.1 1 7) + v1)] M (some (.int r5)) M3 ∧ (∀ x6 : Int64, x6 = (v3 + (r5.toInt64)) → (∃ (r9 : Int32) (M7 : MM), Fn 4 mX3_fits [.ref 37, .int v1, .int x2] M3 (some (.int r9)) M7 ∧ ((r9 = (0 : Int32) → (∀ x11 : Int32, x11 = v8 + 1 → At_X3_grow_48 G v1 v2 v3 v5 v7 x11 M7)) ∧ (¬ (r9 = (0 : Int32)) → (∃ (r14 : Int32) (M12 : MM), Fn 1 mX3_isBetter [.ref 37, .int x2, .long x6, .long v5] M7 (some (.int r14)) M12 ∧ ((¬ r14 = (0 : Int32) → (∃ (r18 : Int64) (M16 : MM), Fn 5 mX3_tread [.ref 37, .int v1, .int v8] M12 (some (.long r18)) M16 ∧ (∀ x19 : Int64, x19 = (v5 + r18) → (∃ (r22 : Int32) (M20 : MM), Fn 1 mX3_isBetter [.ref 37, .int x2, .long x6, .long x19] M16 (some (.int r22)) M20 ∧ ((r22 = (0 : Int32) → (∀ x24 : Int32, x24 = v8 + 1 → At_X3_grow_48 G v1 v2 v3 v5 v7 x24 M20)) ∧ (¬ (r22 = (0 : Int32)) → (∃ M25 : MM, Fn n1 mX3_grow [.ref 37, .int (v1 + 1), .int x2, .long x6, .long x19] M20 none M25 ∧ (∀ x27 : Int32, x27 = v8 + 1 → At_X3_grow_48 G v1 v2 v3 v5 v7 x27 M25)))))))) ∧ (r14 = (0 : Int32) → (∀ x28 : Int32, x28 = v8 + 1 → At_X3_grow_48 G v1 v2 v3 v5 v7 x28 M12))))))))))))) : At_X3_grow_48 G v1 v2 v3 v5 v7 v8 M := by
  unfold At_X3_grow_48
  refine e_iload (pc := 48) g 6 dX3_grow_48 rfl ?_
  refine e_iload (pc := 50) g 5 dX3_grow_50 rfl ?_
  refine e_icmp_ge (pc := 52) g 158 dX3_grow_52 (by decide) (fun c1 => ?_) (fun c1 => ?_)
  · have h := h.1 c1
    exact e_vret (pc := 158) g gr rfl dX3_grow_158 h
  · have h := h.2 c1
    refine e_iload_n (pc := 55) g 2 dX3_grow_55 rfl ?_
    refine e_iload (pc := 56) g 6 dX3_grow_56 rfl ?_
    refine e_iconst (pc := 58) g 2 dX3_grow_58 kc_2 ?_
    refine e_iload_n (pc := 59) g 1 dX3_grow_59 rfl ?_
    refine e_imul (pc := 60) g dX3_grow_60 ?_
    refine e_ishl (pc := 61) g dX3_grow_61 ?_
    refine e_ior (pc := 62) g dX3_grow_62 ?_
    obtain ⟨x2, qx2⟩ : ∃ y : Int32, y = (v2 ||| (v8 <<< ((2 * v1) &&& 31))) := ⟨_, rfl⟩
    have h := h x2 qx2
    refine e_to (S' := [.int x2]) rfl (by rw [qx2]) rfl ?_
    refine e_istore (pc := 63) g [(0, .ref 37), (1, .int v1), (2, .int v2), (3, .long v3), (5, .long v5), (7, .int v7), (8, .int v8), (9, .int x2)] dX3_grow_63 (by decide) rfl ?_
    refine e_lload_n (pc := 65) g 3 dX3_grow_65 rfl ?_
    refine e_aload_n (pc := 66) g 0 dX3_grow_66 rfl ?_
    refine e_getR (pc := 67) g 1 fl_X3_23 sh_37 rfl dX3_grow_67 ?_
    refine e_iload (pc := 70) g 6 dX3_grow_70 rfl ?_
    refine e_aload_n (pc := 72) g 0 dX3_grow_72 rfl ?_
    refine e_getR (pc := 73) g 1 fl_X3_23 sh_37 rfl dX3_grow_73 ?_
    refine e_getI (pc := 76) g fl_X3_66 sh_1 rfl dX3_grow_76 ?_
    refine e_iload_n (pc := 79) g 1 dX3_grow_79 rfl ?_
    refine e_iadd (pc := 80) g dX3_grow_80 ?_
    obtain ⟨r5, M3, f4, h⟩ := h
    refine e_callV (As := [.int v8, .int ((M.1 1 7) + v1)]) (S := [.long v3]) (pc := 81) g ok_X2_cost ml_X3_69 sh_1 ⟨_, rfl, rfl⟩ f4 (by omega) rfl (Nat.le_of_ble_eq_true rfl) dX3_grow_81 ?_
    refine e_to (S' := [.int r5, .long v3]) rfl rfl rfl ?_
    refine e_i2l (pc := 84) g dX3_grow_84 ?_
    refine e_ladd (pc := 85) g dX3_grow_85 ?_
    obtain ⟨x6, qx6⟩ : ∃ y : Int64, y = (v3 + (r5.toInt64)) := ⟨_, rfl⟩
    have h := h x6 qx6
    refine e_to (S' := [.long x6]) rfl (by rw [qx6]) rfl ?_
    refine e_lstore (pc := 86) g [(0, .ref 37), (1, .int v1), (2, .int v2), (3, .long v3), (5, .long v5), (7, .int v7), (8, .int v8), (9, .int x2), (10, .long x6)] dX3_grow_86 (by decide) rfl ?_
    refine e_aload_n (pc := 88) g 0 dX3_grow_88 rfl ?_
    refine e_iload_n (pc := 89) g 1 dX3_grow_89 rfl ?_
    refine e_iload (pc := 90) g 7 dX3_grow_90 rfl ?_
    obtain ⟨r9, M7, f8, h⟩ := h
    refine e_callV (As := [.int v1, .int x2]) (S := []) (pc := 92) g ok_X3_fits ml_X3_72 sh_37 ⟨_, rfl, rfl⟩ f8 (by omega) rfl (Nat.le_of_ble_eq_true rfl) dX3_grow_92 ?_
    refine e_to (S' := [.int r9]) rfl rfl rfl ?_
    refine e_if_eq (pc := 95) g 152 dX3_grow_95 (by decide) (fun c10 => ?_) (fun c10 => ?_)
    · have h := h.1 c10
      obtain ⟨x11, qx11⟩ : ∃ y : Int32, y = v8 + 1 := ⟨_, rfl⟩
      have h := h x11 qx11
      refine e_iinc (pc := 152) g 6 x11 [(0, .ref 37), (1, .int v1), (2, .int v2), (3, .long v3), (5, .long v5), (7, .int v7), (8, .int x11), (9, .int x2), (10, .long x6)] dX3_grow_152 rfl (by rw [qx11]; rfl) (by decide) rfl ?_
      refine e_goto (pc := 155) g 48 dX3_grow_155 (by decide) ?_
      refine e_sub [(0, .ref 37), (1, .int v1), (2, .int v2), (3, .long v3), (5, .long v5), (7, .int v7), (8, .int x11)] [0, 1, 2, 3, 4, 5, 6] rfl ?_
      exact h
    · have h := h.2 c10
      refine e_aload_n (pc := 98) g 0 dX3_grow_98 rfl ?_
      refine e_iload (pc := 99) g 7 dX3_grow_99 rfl ?_
      refine e_lload (pc := 101) g 8 dX3_grow_101 rfl ?_
      refine e_lload (pc := 103) g 4 dX3_grow_103 rfl ?_
      obtain ⟨r14, M12, f13, h⟩ := h
      refine e_callV (As := [.int x2, .long x6, .long v5]) (S := []) (pc := 105) g ok_X3_isBetter ml_X3_76 sh_37 ⟨_, rfl, rfl⟩ f13 (by omega) rfl (Nat.le_of_ble_eq_true rfl) dX3_grow_105 ?_
      refine e_to (S' := [.int r14]) rfl rfl rfl ?_
      refine e_if_ne (pc := 108) g 114 dX3_grow_108 (by decide) (fun c15 => ?_) (fun c15 => ?_)
      · have h := h.1 c15
        refine e_lload (pc := 114) g 4 dX3_grow_114 rfl ?_
        refine e_aload_n (pc := 116) g 0 dX3_grow_116 rfl ?_
        refine e_iload_n (pc := 117) g 1 dX3_grow_117 rfl ?_
        refine e_iload (pc := 118) g 6 dX3_grow_118 rfl ?_
        obtain ⟨r18, M16, f17, h⟩ := h
        refine e_callV (As := [.int v1, .int v8]) (S := [.long v5]) (pc := 120) g ok_X3_tread ml_X3_80 sh_37 ⟨_, rfl, rfl⟩ f17 (by omega) rfl (Nat.le_of_ble_eq_true rfl) dX3_grow_120 ?_
        refine e_to (S' := [.long r18, .long v5]) rfl rfl rfl ?_
        refine e_ladd (pc := 123) g dX3_grow_123 ?_
        obtain ⟨x19, qx19⟩ : ∃ y : Int64, y = (v5 + r18) := ⟨_, rfl⟩
        have h := h x19 qx19
        refine e_to (S' := [.long x19]) rfl (by rw [qx19]) rfl ?_
        refine e_lstore (pc := 124) g [(0, .ref 37), (1, .int v1), (2, .int v2), (3, .long v3), (5, .long v5), (7, .int v7), (8, .int v8), (9, .int x2), (10, .long x6), (12, .long x19)] dX3_grow_124 (by decide) rfl ?_
        refine e_aload_n (pc := 126) g 0 dX3_grow_126 rfl ?_
        refine e_iload (pc := 127) g 7 dX3_grow_127 rfl ?_
        refine e_lload (pc := 129) g 8 dX3_grow_129 rfl ?_
        refine e_lload (pc := 131) g 9 dX3_grow_131 rfl ?_
        obtain ⟨r22, M20, f21, h⟩ := h
        refine e_callV (As := [.int x2, .long x6, .long x19]) (S := []) (pc := 133) g ok_X3_isBetter ml_X3_76 sh_37 ⟨_, rfl, rfl⟩ f21 (by omega) rfl (Nat.le_of_ble_eq_true rfl) dX3_grow_133 ?_
        refine e_to (S' := [.int r22]) rfl rfl rfl ?_
        refine e_if_eq (pc := 136) g 152 dX3_grow_136 (by decide) (fun c23 => ?_) (fun c23 => ?_)
        · have h := h.1 c23
          obtain ⟨x24, qx24⟩ : ∃ y : Int32, y = v8 + 1 := ⟨_, rfl⟩
          have h := h x24 qx24
          refine e_iinc (pc := 152) g 6 x24 [(0, .ref 37), (1, .int v1), (2, .int v2), (3, .long v3), (5, .long v5), (7, .int v7), (8, .int x24), (9, .int x2), (10, .long x6), (12, .long x19)] dX3_grow_152 rfl (by rw [qx24]; rfl) (by decide) rfl ?_
          refine e_goto (pc := 155) g 48 dX3_grow_155 (by decide) ?_
          refine e_sub [(0, .ref 37), (1, .int v1), (2, .int v2), (3, .long v3), (5, .long v5), (7, .int v7), (8, .int x24)] [0, 1, 2, 3, 4, 5, 6] rfl ?_
          exact h
        · have h := h.2 c23
          refine e_aload_n (pc := 139) g 0 dX3_grow_139 rfl ?_
          refine e_iload_n (pc := 140) g 1 dX3_grow_140 rfl ?_
          refine e_iconst (pc := 141) g 1 dX3_grow_141 kc_1 ?_
          refine e_iadd (pc := 142) g dX3_grow_142 ?_
          refine e_iload (pc := 143) g 7 dX3_grow_143 rfl ?_
          refine e_lload (pc := 145) g 8 dX3_grow_145 rfl ?_
          refine e_lload (pc := 147) g 9 dX3_grow_147 rfl ?_
          obtain ⟨M25, f26, h⟩ := h
          refine e_callS (As := [.ref 37, .int (v1 + 1), .int x2, .long x6, .long x19]) (S := []) (pc := 149) g ok_X3_grow ml_X3_50 f26 (by omega) rfl (Nat.le_of_ble_eq_true rfl) dX3_grow_149 ?_
          refine e_to (S' := []) rfl rfl rfl ?_
          obtain ⟨x27, qx27⟩ : ∃ y : Int32, y = v8 + 1 := ⟨_, rfl⟩
          have h := h x27 qx27
          refine e_iinc (pc := 152) g 6 x27 [(0, .ref 37), (1, .int v1), (2, .int v2), (3, .long v3), (5, .long v5), (7, .int v7), (8, .int x27), (9, .int x2), (10, .long x6), (12, .long x19)] dX3_grow_152 rfl (by rw [qx27]; rfl) (by decide) rfl ?_
          refine e_goto (pc := 155) g 48 dX3_grow_155 (by decide) ?_
          refine e_sub [(0, .ref 37), (1, .int v1), (2, .int v2), (3, .long v3), (5, .long v5), (7, .int v7), (8, .int x27)] [0, 1, 2, 3, 4, 5, 6] rfl ?_
          exact h
      · have h := h.2 c15
        refine e_goto (pc := 111) g 152 dX3_grow_111 (by decide) ?_
        obtain ⟨x28, qx28⟩ : ∃ y : Int32, y = v8 + 1 := ⟨_, rfl⟩
        have h := h x28 qx28
        refine e_iinc (pc := 152) g 6 x28 [(0, .ref 37), (1, .int v1), (2, .int v2), (3, .long v3), (5, .long v5), (7, .int v7), (8, .int x28), (9, .int x2), (10, .long x6)] dX3_grow_152 rfl (by rw [qx28]; rfl) (by decide) rfl ?_
        refine e_goto (pc := 155) g 48 dX3_grow_155 (by decide) ?_
        refine e_sub [(0, .ref 37), (1, .int v1), (2, .int v2), (3, .long v3), (5, .long v5), (7, .int v7), (8, .int x28)] [0, 1, 2, 3, 4, 5, 6] rfl ?_
        exact h
set_option maxHeartbeats 4000000 in
set_option maxRecDepth 100000 in
theorem b_X3_isBetter_0 {G : GC} {n : Nat} {r : Option Value} {M' : MM} (g : Good G mX3_isBetter n) (gr : GoodR G r M') (hn : 1 ≤ n) (a1 : Int32) (a2 : Int64) (a4 : Int64)   (M : MM) (h : ((a4 = ((M.2 37 7) : Int64) → ((if a2 = ((M.2 37 6) : Int64) then (if ((M.1 37 5) : Int32) ≤ a1 then 0 else 1) else (if a2 ≥ ((M.2 37 6) : Int64) then 0 else 1)) = (0 : Int32) ∨ (if a2 = ((M.2 37 6) : Int64) then (if ((M.1 37 5) : Int32) ≤ a1 then 0 else 1) else (if a2 ≥ ((M.2 37 6) : Int64) then 0 else 1)) = (1 : Int32)) ∧ (r = some (.int (if a2 = ((M.2 37 6) : Int64) then (if ((M.1 37 5) : Int32) ≤ a1 then 0 else 1) else (if a2 ≥ ((M.2 37 6) : Int64) then 0 else 1))) ∧ M' = M)) ∧ (¬ (a4 = ((M.2 37 7) : Int64)) → ((if a4 ≥ ((M.2 37 7) : Int64) then 0 else 1) = (0 : Int32) ∨ (if a4 ≥ ((M.2 37 7) : Int64) then 0 else 1) = (1 : Int32)) ∧ (r = some (.int (if a4 ≥ ((M.2 37 7) : Int64) then 0 else 1)) ∧ M' = M)))) : Ev G 0 [(0, .ref 37), (1, .int a1), (2, .long a2), (4, .long a4)] [] M := by
  refine e_lload (pc := 0) g 3 dX3_isBetter_0 rfl ?_
  refine e_aload_n (pc := 2) g 0 dX3_isBetter_2 rfl ?_
  refine e_getL (pc := 3) g fl_X3_44 sh_37 rfl dX3_isBetter_3 ?_
  refine e_lcmp (pc := 6) g dX3_isBetter_6 ?_
  refine e_if_eq (pc := 7) g 26 dX3_isBetter_7 (by decide) (fun c1 => ?_) (fun c1 => ?_)
  · have h := h.1 (lc_eq.mp c1)
    refine e_lload_n (pc := 26) g 2 dX3_isBetter_26 rfl ?_
    refine e_aload_n (pc := 27) g 0 dX3_isBetter_27 rfl ?_
    refine e_getL (pc := 28) g fl_X3_38 sh_37 rfl dX3_isBetter_28 ?_
    refine e_lcmp (pc := 31) g dX3_isBetter_31 ?_
    have hj : Ev G 65 [(0, .ref 37), (1, .int a1), (2, .long a2), (4, .long a4)] [.int (if a2 = ((M.2 37 6) : Int64) then (if ((M.1 37 5) : Int32) ≤ a1 then 0 else 1) else (if a2 ≥ ((M.2 37 6) : Int64) then 0 else 1))] M := by
      obtain ⟨o5, h⟩ := h
      exact e_zret (pc := 65) g gr rfl o5 dX3_isBetter_65 h
    refine e_if_eq (pc := 32) g 52 dX3_isBetter_32 (by decide) (fun c2 => ?_) (fun c2 => ?_)
    · rw [if_pos (lc_eq.mp c2)] at hj
      refine e_iload_n (pc := 52) g 1 dX3_isBetter_52 rfl ?_
      refine e_aload_n (pc := 53) g 0 dX3_isBetter_53 rfl ?_
      refine e_getI (pc := 54) g fl_X3_35 sh_37 rfl dX3_isBetter_54 ?_
      refine e_icmp_ge (pc := 57) g 64 dX3_isBetter_57 (by decide) (fun c3 => ?_) (fun c3 => ?_)
      · rw [if_pos c3] at hj
        refine e_iconst (pc := 64) g 0 dX3_isBetter_64 kc_0 ?_
        exact hj
      · rw [if_neg c3] at hj
        refine e_iconst (pc := 60) g 1 dX3_isBetter_60 kc_1 ?_
        refine e_goto (pc := 61) g 65 dX3_isBetter_61 (by decide) ?_
        exact hj
    · rw [if_neg (fun z => c2 (lc_eq.mpr z))] at hj
      refine e_lload_n (pc := 35) g 2 dX3_isBetter_35 rfl ?_
      refine e_aload_n (pc := 36) g 0 dX3_isBetter_36 rfl ?_
      refine e_getL (pc := 37) g fl_X3_38 sh_37 rfl dX3_isBetter_37 ?_
      refine e_lcmp (pc := 40) g dX3_isBetter_40 ?_
      refine e_if_ge (pc := 41) g 48 dX3_isBetter_41 (by decide) (fun c4 => ?_) (fun c4 => ?_)
      · rw [if_pos (lc_ge.mp c4)] at hj
        refine e_iconst (pc := 48) g 0 dX3_isBetter_48 kc_0 ?_
        refine e_goto (pc := 49) g 65 dX3_isBetter_49 (by decide) ?_
        exact hj
      · rw [if_neg (fun z => c4 (lc_ge.mpr z))] at hj
        refine e_iconst (pc := 44) g 1 dX3_isBetter_44 kc_1 ?_
        refine e_goto (pc := 45) g 65 dX3_isBetter_45 (by decide) ?_
        exact hj
  · have h := h.2 (fun z => c1 (lc_eq.mpr z))
    refine e_lload (pc := 10) g 3 dX3_isBetter_10 rfl ?_
    refine e_aload_n (pc := 12) g 0 dX3_isBetter_12 rfl ?_
    refine e_getL (pc := 13) g fl_X3_44 sh_37 rfl dX3_isBetter_13 ?_
    refine e_lcmp (pc := 16) g dX3_isBetter_16 ?_
    have hj : Ev G 25 [(0, .ref 37), (1, .int a1), (2, .long a2), (4, .long a4)] [.int (if a4 ≥ ((M.2 37 7) : Int64) then 0 else 1)] M := by
      obtain ⟨o7, h⟩ := h
      exact e_zret (pc := 25) g gr rfl o7 dX3_isBetter_25 h
    refine e_if_ge (pc := 17) g 24 dX3_isBetter_17 (by decide) (fun c6 => ?_) (fun c6 => ?_)
    · rw [if_pos (lc_ge.mp c6)] at hj
      refine e_iconst (pc := 24) g 0 dX3_isBetter_24 kc_0 ?_
      exact hj
    · rw [if_neg (fun z => c6 (lc_ge.mpr z))] at hj
      refine e_iconst (pc := 20) g 1 dX3_isBetter_20 kc_1 ?_
      refine e_goto (pc := 21) g 25 dX3_isBetter_21 (by decide) ?_
      exact hj
set_option maxHeartbeats 4000000 in
set_option maxRecDepth 100000 in
theorem b_X3_tells_0 {G : GC} {n : Nat} {r : Option Value} {M' : MM} (g : Good G mX3_tells n) (gr : GoodR G r M') (hn : 1 ≤ n) (a1 : Int32) (a2 : Int32) (a3 : Int32)   (M : MM) (h : ((if ((a1 >>> (((2 * a2) + a3) &&& 31)) &&& 1) = (0 : Int32) then 0 else 1) = (0 : Int32) ∨ (if ((a1 >>> (((2 * a2) + a3) &&& 31)) &&& 1) = (0 : Int32) then 0 else 1) = (1 : Int32)) ∧ (r = some (.int (if ((a1 >>> (((2 * a2) + a3) &&& 31)) &&& 1) = (0 : Int32) then 0 else 1)) ∧ M' = M)) : Ev G 0 [(0, .ref 37), (1, .int a1), (2, .int a2), (3, .int a3)] [] M := by
  refine e_iload_n (pc := 0) g 1 dX3_tells_0 rfl ?_
  refine e_iconst (pc := 1) g 2 dX3_tells_1 kc_2 ?_
  refine e_iload_n (pc := 2) g 2 dX3_tells_2 rfl ?_
  refine e_imul (pc := 3) g dX3_tells_3 ?_
  refine e_iload_n (pc := 4) g 3 dX3_tells_4 rfl ?_
  refine e_iadd (pc := 5) g dX3_tells_5 ?_
  refine e_ishr (pc := 6) g dX3_tells_6 ?_
  refine e_iconst (pc := 7) g 1 dX3_tells_7 kc_1 ?_
  refine e_iand (pc := 8) g dX3_tells_8 ?_
  have hj : Ev G 17 [(0, .ref 37), (1, .int a1), (2, .int a2), (3, .int a3)] [.int (if ((a1 >>> (((2 * a2) + a3) &&& 31)) &&& 1) = (0 : Int32) then 0 else 1)] M := by
    obtain ⟨o2, h⟩ := h
    exact e_zret (pc := 17) g gr rfl o2 dX3_tells_17 h
  refine e_if_eq (pc := 9) g 16 dX3_tells_9 (by decide) (fun c1 => ?_) (fun c1 => ?_)
  · rw [if_pos c1] at hj
    refine e_iconst (pc := 16) g 0 dX3_tells_16 kc_0 ?_
    exact hj
  · rw [if_neg c1] at hj
    refine e_iconst (pc := 12) g 1 dX3_tells_12 kc_1 ?_
    refine e_goto (pc := 13) g 17 dX3_tells_13 (by decide) ?_
    exact hj
set_option maxHeartbeats 4000000 in
set_option maxRecDepth 100000 in
theorem b_X3_bitsOf_0 {G : GC} {n : Nat} {r : Option Value} {M' : MM} (g : Good G mX3_bitsOf n) (gr : GoodR G r M') (hn : 1 ≤ n) (a1 : Int32) (a2 : Int32)   (M : MM) (h : (r = some (.int ((a1 >>> ((2 * a2) &&& 31)) &&& 3)) ∧ M' = M)) : Ev G 0 [(0, .ref 37), (1, .int a1), (2, .int a2)] [] M := by
  refine e_iload_n (pc := 0) g 1 dX3_bitsOf_0 rfl ?_
  refine e_iconst (pc := 1) g 2 dX3_bitsOf_1 kc_2 ?_
  refine e_iload_n (pc := 2) g 2 dX3_bitsOf_2 rfl ?_
  refine e_imul (pc := 3) g dX3_bitsOf_3 ?_
  refine e_ishr (pc := 4) g dX3_bitsOf_4 ?_
  refine e_iconst (pc := 5) g 3 dX3_bitsOf_5 kc_3 ?_
  refine e_iand (pc := 6) g dX3_bitsOf_6 ?_
  exact e_iret (pc := 7) g gr rfl dX3_bitsOf_7 h
/-- at the cut 17 of X3_isPlan -/
def At_X3_isPlan_17 (G : GC)  (v1 : Int32) (v2 : Int32) (v3 : Int32)  (M : MM) : Prop := Ev G 17 [(0, .ref 37), (1, .int v1), (2, .int v2), (3, .int v3)] [] M
set_option maxHeartbeats 4000000 in
set_option maxRecDepth 100000 in
theorem b_X3_isPlan_0 {G : GC} {n : Nat} {r : Option Value} {M' : MM} (g : Good G mX3_isPlan n) (gr : GoodR G r M') (hn : 3 ≤ n) (a1 : Int32) (a2 : Int32)   (M : MM) (h : ((a2 < (0 : Int32) → (r = some (.int 0) ∧ M' = M)) ∧ (¬ (a2 < (0 : Int32)) → ((a2 < ((1 <<< ((2 * a1) &&& 31)) : Int32) → At_X3_isPlan_17 G a1 a2 0 M) ∧ (¬ (a2 < ((1 <<< ((2 * a1) &&& 31)) : Int32)) → (r = some (.int 0) ∧ M' = M)))))) : Ev G 0 [(0, .ref 37), (1, .int a1), (2, .int a2)] [] M := by
  refine e_iload_n (pc := 0) g 2 dX3_isPlan_0 rfl ?_
  refine e_if_lt (pc := 1) g 13 dX3_isPlan_1 (by decide) (fun c1 => ?_) (fun c1 => ?_)
  · have h := h.1 c1
    refine e_iconst (pc := 13) g 0 dX3_isPlan_13 kc_0 ?_
    exact e_zret (pc := 14) g gr rfl (by decide) dX3_isPlan_14 h
  · have h := h.2 c1
    refine e_iload_n (pc := 4) g 2 dX3_isPlan_4 rfl ?_
    refine e_iconst (pc := 5) g 1 dX3_isPlan_5 kc_1 ?_
    refine e_iconst (pc := 6) g 2 dX3_isPlan_6 kc_2 ?_
    refine e_iload_n (pc := 7) g 1 dX3_isPlan_7 rfl ?_
    refine e_imul (pc := 8) g dX3_isPlan_8 ?_
    refine e_ishl (pc := 9) g dX3_isPlan_9 ?_
    refine e_icmp_lt (pc := 10) g 15 dX3_isPlan_10 (by decide) (fun c2 => ?_) (fun c2 => ?_)
    · have h := h.1 c2
      refine e_iconst (pc := 15) g 0 dX3_isPlan_15 kc_0 ?_
      refine e_istore_n (pc := 16) g [(0, .ref 37), (1, .int a1), (2, .int a2), (3, .int 0)] dX3_isPlan_16 (by decide) rfl ?_
      exact h
    · have h := h.2 c2
      refine e_iconst (pc := 13) g 0 dX3_isPlan_13 kc_0 ?_
      exact e_zret (pc := 14) g gr rfl (by decide) dX3_isPlan_14 h
set_option maxHeartbeats 4000000 in
set_option maxRecDepth 100000 in
theorem b_X3_isPlan_17 {G : GC} {n : Nat} {r : Option Value} {M' : MM} (g : Good G mX3_isPlan n) (gr : GoodR G r M') (hn : 3 ≤ n)  (v1 : Int32) (v2 : Int32) (v3 : Int32)  (M : MM) (h : (((v1 : Int32) ≤ v3 → (r = some (.int 1) ∧ M' = M)) ∧ (¬ ((v1 : Int32) ≤ v3) → (∃ (r4 : Int32) (M2 : MM), Fn 1 mX3_bitsOf [.ref 37, .int v2, .int v3] M (some (.int r4)) M2 ∧ (∃ (r7 : Int32) (M5 : MM), Fn 2 mX4_inPlans [.ref 15] M2 (some (.int r7)) M5 ∧ ((r4 < ((1 <<< (r7 &&& 31)) : Int32) → (∀ x9 : Int32, x9 = v3 + 1 → At_X3_isPlan_17 G v1 v2 x9 M5)) ∧ (¬ (r4 < ((1 <<< (r7 &&& 31)) : Int32)) → (r = some (.int 0) ∧ M' = M5)))))))) : At_X3_isPlan_17 G v1 v2 v3 M := by
  unfold At_X3_isPlan_17
  refine e_iload_n (pc := 17) g 3 dX3_isPlan_17 rfl ?_
  refine e_iload_n (pc := 18) g 1 dX3_isPlan_18 rfl ?_
  refine e_icmp_ge (pc := 19) g 51 dX3_isPlan_19 (by decide) (fun c1 => ?_) (fun c1 => ?_)
  · have h := h.1 c1
    refine e_iconst (pc := 51) g 1 dX3_isPlan_51 kc_1 ?_
    exact e_zret (pc := 52) g gr rfl (by decide) dX3_isPlan_52 h
  · have h := h.2 c1
    refine e_aload_n (pc := 22) g 0 dX3_isPlan_22 rfl ?_
    refine e_iload_n (pc := 23) g 2 dX3_isPlan_23 rfl ?_
    refine e_iload_n (pc := 24) g 3 dX3_isPlan_24 rfl ?_
    obtain ⟨r4, M2, f3, h⟩ := h
    refine e_callV (As := [.int v2, .int v3]) (S := []) (pc := 25) g ok_X3_bitsOf ml_X3_84 sh_37 ⟨_, rfl, rfl⟩ f3 (by omega) rfl (Nat.le_of_ble_eq_true rfl) dX3_isPlan_25 ?_
    refine e_to (S' := [.int r4]) rfl rfl rfl ?_
    refine e_iconst (pc := 28) g 1 dX3_isPlan_28 kc_1 ?_
    refine e_aload_n (pc := 29) g 0 dX3_isPlan_29 rfl ?_
    refine e_getR (pc := 30) g 1 fl_X3_23 sh_37 rfl dX3_isPlan_30 ?_
    refine e_getR (pc := 33) g 15 fl_X3_54 sh_1 rfl dX3_isPlan_33 ?_
    obtain ⟨r7, M5, f6, h⟩ := h
    refine e_callV (As := []) (S := [.int 1, .int r4]) (pc := 36) g ok_X4_inPlans ml_X3_60 sh_15 ⟨_, rfl, rfl⟩ f6 (by omega) rfl (Nat.le_of_ble_eq_true rfl) dX3_isPlan_36 ?_
    refine e_to (S' := [.int r7, .int 1, .int r4]) rfl rfl rfl ?_
    refine e_ishl (pc := 39) g dX3_isPlan_39 ?_
    refine e_icmp_lt (pc := 40) g 45 dX3_isPlan_40 (by decide) (fun c8 => ?_) (fun c8 => ?_)
    · have h := h.1 c8
      obtain ⟨x9, qx9⟩ : ∃ y : Int32, y = v3 + 1 := ⟨_, rfl⟩
      have h := h x9 qx9
      refine e_iinc (pc := 45) g 3 x9 [(0, .ref 37), (1, .int v1), (2, .int v2), (3, .int x9)] dX3_isPlan_45 rfl (by rw [qx9]; rfl) (by decide) rfl ?_
      refine e_goto (pc := 48) g 17 dX3_isPlan_48 (by decide) ?_
      exact h
    · have h := h.2 c8
      refine e_iconst (pc := 43) g 0 dX3_isPlan_43 kc_0 ?_
      exact e_zret (pc := 44) g gr rfl (by decide) dX3_isPlan_44 h
/-- at the cut 2 of X3_isWell -/
def At_X3_isWell_2 (G : GC)  (v1 : Int32) (v2 : Int32) (v3 : Int32)  (M : MM) : Prop := Ev G 2 [(0, .ref 37), (1, .int v1), (2, .int v2), (3, .int v3)] [] M
set_option maxHeartbeats 4000000 in
set_option maxRecDepth 100000 in
theorem b_X3_isWell_0 {G : GC} {n : Nat} {r : Option Value} {M' : MM} (g : Good G mX3_isWell n) (gr : GoodR G r M') (hn : 5 ≤ n) (a1 : Int32) (a2 : Int32)   (M : MM) (h : At_X3_isWell_2 G a1 a2 0 M) : Ev G 0 [(0, .ref 37), (1, .int a1), (2, .int a2)] [] M := by
  refine e_iconst (pc := 0) g 0 dX3_isWell_0 kc_0 ?_
  refine e_istore_n (pc := 1) g [(0, .ref 37), (1, .int a1), (2, .int a2), (3, .int 0)] dX3_isWell_1 (by decide) rfl ?_
  exact h
set_option maxHeartbeats 4000000 in
set_option maxRecDepth 100000 in
theorem b_X3_isWell_2 {G : GC} {n : Nat} {r : Option Value} {M' : MM} (g : Good G mX3_isWell n) (gr : GoodR G r M') (hn : 5 ≤ n)  (v1 : Int32) (v2 : Int32) (v3 : Int32)  (M : MM) (h : (((v1 : Int32) ≤ v3 → (r = some (.int 1) ∧ M' = M)) ∧ (¬ ((v1 : Int32) ≤ v3) → (∃ (r4 : Int32) (M2 : MM), Fn 4 mX3_fits [.ref 37, .int v3, .int v2] M (some (.int r4)) M2 ∧ ((¬ r4 = (0 : Int32) → (∀ x6 : Int32, x6 = v3 + 1 → At_X3_isWell_2 G v1 v2 x6 M2)) ∧ (r4 = (0 : Int32) → (r = some (.int 0) ∧ M' = M2))))))) : At_X3_isWell_2 G v1 v2 v3 M := by
  unfold At_X3_isWell_2
  refine e_iload_n (pc := 2) g 3 dX3_isWell_2 rfl ?_
  refine e_iload_n (pc := 3) g 1 dX3_isWell_3 rfl ?_
  refine e_icmp_ge (pc := 4) g 24 dX3_isWell_4 (by decide) (fun c1 => ?_) (fun c1 => ?_)
  · have h := h.1 c1
    refine e_iconst (pc := 24) g 1 dX3_isWell_24 kc_1 ?_
    exact e_zret (pc := 25) g gr rfl (by decide) dX3_isWell_25 h
  · have h := h.2 c1
    refine e_aload_n (pc := 7) g 0 dX3_isWell_7 rfl ?_
    refine e_iload_n (pc := 8) g 3 dX3_isWell_8 rfl ?_
    refine e_iload_n (pc := 9) g 2 dX3_isWell_9 rfl ?_
    obtain ⟨r4, M2, f3, h⟩ := h
    refine e_callV (As := [.int v3, .int v2]) (S := []) (pc := 10) g ok_X3_fits ml_X3_72 sh_37 ⟨_, rfl, rfl⟩ f3 (by omega) rfl (Nat.le_of_ble_eq_true rfl) dX3_isWell_10 ?_
    refine e_to (S' := [.int r4]) rfl rfl rfl ?_
    refine e_if_ne (pc := 13) g 18 dX3_isWell_13 (by decide) (fun c5 => ?_) (fun c5 => ?_)
    · have h := h.1 c5
      obtain ⟨x6, qx6⟩ : ∃ y : Int32, y = v3 + 1 := ⟨_, rfl⟩
      have h := h x6 qx6
      refine e_iinc (pc := 18) g 3 x6 [(0, .ref 37), (1, .int v1), (2, .int v2), (3, .int x6)] dX3_isWell_18 rfl (by rw [qx6]; rfl) (by decide) rfl ?_
      refine e_goto (pc := 21) g 2 dX3_isWell_21 (by decide) ?_
      exact h
    · have h := h.2 c5
      refine e_iconst (pc := 16) g 0 dX3_isWell_16 kc_0 ?_
      exact e_zret (pc := 17) g gr rfl (by decide) dX3_isWell_17 h
/-- at the cut 2 of X3_fits -/
def At_X3_fits_2 (G : GC)  (v1 : Int32) (v2 : Int32) (v3 : Int32)  (M : MM) : Prop := Ev G 2 [(0, .ref 37), (1, .int v1), (2, .int v2), (3, .int v3)] [] M
set_option maxHeartbeats 4000000 in
set_option maxRecDepth 100000 in
theorem b_X3_fits_0 {G : GC} {n : Nat} {r : Option Value} {M' : MM} (g : Good G mX3_fits n) (gr : GoodR G r M') (hn : 4 ≤ n) (a1 : Int32) (a2 : Int32)   (M : MM) (h : At_X3_fits_2 G a1 a2 0 M) : Ev G 0 [(0, .ref 37), (1, .int a1), (2, .int a2)] [] M := by
  refine e_iconst (pc := 0) g 0 dX3_fits_0 kc_0 ?_
  refine e_istore_n (pc := 1) g [(0, .ref 37), (1, .int a1), (2, .int a2), (3, .int 0)] dX3_fits_1 (by decide) rfl ?_
  exact h
set_option maxHeartbeats 4000000 in
set_option maxRecDepth 100000 in
theorem b_X3_fits_2 {G : GC} {n : Nat} {r : Option Value} {M' : MM} (g : Good G mX3_fits n) (gr : GoodR G r M') (hn : 4 ≤ n)  (v1 : Int32) (v2 : Int32) (v3 : Int32)  (M : MM) (h : (∃ (r3 : Int32) (M1 : MM), Fn 2 mX4_inPlans [.ref 15] M (some (.int r3)) M1 ∧ (((r3 : Int32) ≤ v3 → (r = some (.int 1) ∧ M' = M1)) ∧ (¬ ((r3 : Int32) ≤ v3) → (∃ (r7 : Int32) (M5 : MM), Fn 1 mX3_tells [.ref 37, .int v2, .int v1, .int v3] M1 (some (.int r7)) M5 ∧ ((r7 = (0 : Int32) → (∃ (r11 : Int32) (M9 : MM), Fn 2 mX3_mayEnd [.ref 37, .int v1, .int v2, .int v3] M5 (some (.int r11)) M9 ∧ ((¬ r11 = (0 : Int32) → (∀ x13 : Int32, x13 = v3 + 1 → At_X3_fits_2 G v1 v2 x13 M9)) ∧ (r11 = (0 : Int32) → (r = some (.int 0) ∧ M' = M9))))) ∧ (¬ (r7 = (0 : Int32)) → (∃ (r16 : Int32) (M14 : MM), Fn 3 mX4_pausesAt [.ref 15, .int v3, .int ((M5.1 1 7) + v1)] M5 (some (.int r16)) M14 ∧ ((r16 = (0 : Int32) → (∀ x18 : Int32, x18 = v3 + 1 → At_X3_fits_2 G v1 v2 x18 M14)) ∧ (¬ (r16 = (0 : Int32)) → (r = some (.int 0) ∧ M' = M14))))))))))) : At_X3_fits_2 G v1 v2 v3 M := by
  unfold At_X3_fits_2
  refine e_iload_n (pc := 2) g 3 dX3_fits_2 rfl ?_
  refine e_aload_n (pc := 3) g 0 dX3_fits_3 rfl ?_
  refine e_getR (pc := 4) g 1 fl_X3_23 sh_37 rfl dX3_fits_4 ?_
  refine e_getR (pc := 7) g 15 fl_X3_54 sh_1 rfl dX3_fits_7 ?_
  obtain ⟨r3, M1, f2, h⟩ := h
  refine e_callV (As := []) (S := [.int v3]) (pc := 10) g ok_X4_inPlans ml_X3_60 sh_15 ⟨_, rfl, rfl⟩ f2 (by omega) rfl (Nat.le_of_ble_eq_true rfl) dX3_fits_10 ?_
  refine e_to (S' := [.int r3, .int v3]) rfl rfl rfl ?_
  refine e_icmp_ge (pc := 13) g 74 dX3_fits_13 (by decide) (fun c4 => ?_) (fun c4 => ?_)
  · have h := h.1 c4
    refine e_iconst (pc := 74) g 1 dX3_fits_74 kc_1 ?_
    exact e_zret (pc := 75) g gr rfl (by decide) dX3_fits_75 h
  · have h := h.2 c4
    refine e_aload_n (pc := 16) g 0 dX3_fits_16 rfl ?_
    refine e_iload_n (pc := 17) g 2 dX3_fits_17 rfl ?_
    refine e_iload_n (pc := 18) g 1 dX3_fits_18 rfl ?_
    refine e_iload_n (pc := 19) g 3 dX3_fits_19 rfl ?_
    obtain ⟨r7, M5, f6, h⟩ := h
    refine e_callV (As := [.int v2, .int v1, .int v3]) (S := []) (pc := 20) g ok_X3_tells ml_X3_87 sh_37 ⟨_, rfl, rfl⟩ f6 (by omega) rfl (Nat.le_of_ble_eq_true rfl) dX3_fits_20 ?_
    refine e_to (S' := [.int r7]) rfl rfl rfl ?_
    refine e_istore (pc := 23) g [(0, .ref 37), (1, .int v1), (2, .int v2), (3, .int v3), (4, .int r7)] dX3_fits_23 (by decide) rfl ?_
    refine e_iload (pc := 25) g 4 dX3_fits_25 rfl ?_
    refine e_if_eq (pc := 27) g 56 dX3_fits_27 (by decide) (fun c8 => ?_) (fun c8 => ?_)
    · have h := h.1 c8
      refine e_aload_n (pc := 56) g 0 dX3_fits_56 rfl ?_
      refine e_iload_n (pc := 57) g 1 dX3_fits_57 rfl ?_
      refine e_iload_n (pc := 58) g 2 dX3_fits_58 rfl ?_
      refine e_iload_n (pc := 59) g 3 dX3_fits_59 rfl ?_
      obtain ⟨r11, M9, f10, h⟩ := h
      refine e_callV (As := [.int v1, .int v2, .int v3]) (S := []) (pc := 60) g ok_X3_mayEnd ml_X3_94 sh_37 ⟨_, rfl, rfl⟩ f10 (by omega) rfl (Nat.le_of_ble_eq_true rfl) dX3_fits_60 ?_
      refine e_to (S' := [.int r11]) rfl rfl rfl ?_
      refine e_if_ne (pc := 63) g 68 dX3_fits_63 (by decide) (fun c12 => ?_) (fun c12 => ?_)
      · have h := h.1 c12
        obtain ⟨x13, qx13⟩ : ∃ y : Int32, y = v3 + 1 := ⟨_, rfl⟩
        have h := h x13 qx13
        refine e_iinc (pc := 68) g 3 x13 [(0, .ref 37), (1, .int v1), (2, .int v2), (3, .int x13), (4, .int r7)] dX3_fits_68 rfl (by rw [qx13]; rfl) (by decide) rfl ?_
        refine e_goto (pc := 71) g 2 dX3_fits_71 (by decide) ?_
        refine e_sub [(0, .ref 37), (1, .int v1), (2, .int v2), (3, .int x13)] [0, 1, 2, 3] rfl ?_
        exact h
      · have h := h.2 c12
        refine e_iconst (pc := 66) g 0 dX3_fits_66 kc_0 ?_
        exact e_zret (pc := 67) g gr rfl (by decide) dX3_fits_67 h
    · have h := h.2 c8
      refine e_aload_n (pc := 30) g 0 dX3_fits_30 rfl ?_
      refine e_getR (pc := 31) g 1 fl_X3_23 sh_37 rfl dX3_fits_31 ?_
      refine e_getR (pc := 34) g 15 fl_X3_54 sh_1 rfl dX3_fits_34 ?_
      refine e_iload_n (pc := 37) g 3 dX3_fits_37 rfl ?_
      refine e_aload_n (pc := 38) g 0 dX3_fits_38 rfl ?_
      refine e_getR (pc := 39) g 1 fl_X3_23 sh_37 rfl dX3_fits_39 ?_
      refine e_getI (pc := 42) g fl_X3_66 sh_1 rfl dX3_fits_42 ?_
      refine e_iload_n (pc := 45) g 1 dX3_fits_45 rfl ?_
      refine e_iadd (pc := 46) g dX3_fits_46 ?_
      obtain ⟨r16, M14, f15, h⟩ := h
      refine e_callV (As := [.int v3, .int ((M5.1 1 7) + v1)]) (S := []) (pc := 47) g ok_X4_pausesAt ml_X3_91 sh_15 ⟨_, rfl, rfl⟩ f15 (by omega) rfl (Nat.le_of_ble_eq_true rfl) dX3_fits_47 ?_
      refine e_to (S' := [.int r16]) rfl rfl rfl ?_
      refine e_if_eq (pc := 50) g 68 dX3_fits_50 (by decide) (fun c17 => ?_) (fun c17 => ?_)
      · have h := h.1 c17
        obtain ⟨x18, qx18⟩ : ∃ y : Int32, y = v3 + 1 := ⟨_, rfl⟩
        have h := h x18 qx18
        refine e_iinc (pc := 68) g 3 x18 [(0, .ref 37), (1, .int v1), (2, .int v2), (3, .int x18), (4, .int r7)] dX3_fits_68 rfl (by rw [qx18]; rfl) (by decide) rfl ?_
        refine e_goto (pc := 71) g 2 dX3_fits_71 (by decide) ?_
        refine e_sub [(0, .ref 37), (1, .int v1), (2, .int v2), (3, .int x18)] [0, 1, 2, 3] rfl ?_
        exact h
      · have h := h.2 c17
        refine e_goto (pc := 53) g 66 dX3_fits_53 (by decide) ?_
        refine e_iconst (pc := 66) g 0 dX3_fits_66 kc_0 ?_
        exact e_zret (pc := 67) g gr rfl (by decide) dX3_fits_67 h
/-- at the cut 3 of X3_mayEnd -/
def At_X3_mayEnd_3 (G : GC)  (v1 : Int32) (v2 : Int32) (v3 : Int32) (v4 : Int32)  (M : MM) : Prop := Ev G 3 [(0, .ref 37), (1, .int v1), (2, .int v2), (3, .int v3), (4, .int v4)] [] M
set_option maxHeartbeats 4000000 in
set_option maxRecDepth 100000 in
theorem b_X3_mayEnd_0 {G : GC} {n : Nat} {r : Option Value} {M' : MM} (g : Good G mX3_mayEnd n) (gr : GoodR G r M') (hn : 2 ≤ n) (a1 : Int32) (a2 : Int32) (a3 : Int32)   (M : MM) (h : At_X3_mayEnd_3 G a1 a2 a3 0 M) : Ev G 0 [(0, .ref 37), (1, .int a1), (2, .int a2), (3, .int a3)] [] M := by
  refine e_iconst (pc := 0) g 0 dX3_mayEnd_0 kc_0 ?_
  refine e_istore (pc := 1) g [(0, .ref 37), (1, .int a1), (2, .int a2), (3, .int a3), (4, .int 0)] dX3_mayEnd_1 (by decide) rfl ?_
  exact h
set_option maxHeartbeats 4000000 in
set_option maxRecDepth 100000 in
theorem b_X3_mayEnd_3 {G : GC} {n : Nat} {r : Option Value} {M' : MM} (g : Good G mX3_mayEnd n) (gr : GoodR G r M') (hn : 2 ≤ n)  (v1 : Int32) (v2 : Int32) (v3 : Int32) (v4 : Int32)  (M : MM) (h : (((v1 : Int32) ≤ v4 → ((v4 = (0 : Int32) → (r = some (.int 1) ∧ M' = M)) ∧ (¬ (v4 = (0 : Int32)) → (vp_in v3 4) ∧ ((((M.1 19 v3.toNatClampNeg) : Int32) ≤ v4 → (r = some (.int 1) ∧ M' = M)) ∧ (¬ (((M.1 19 v3.toNatClampNeg) : Int32) ≤ v4) → ((¬ v4 = (v1 : Int32) → (r = some (.int 0) ∧ M' = M)) ∧ (v4 = (v1 : Int32) → (∃ (r8 : Int32) (M6 : MM), Fn 1 mX4_isOn [.ref 15, .int v3] M (some (.int r8)) M6 ∧ ((if r8 = (0 : Int32) then 0 else 1) = (0 : Int32) ∨ (if r8 = (0 : Int32) then 0 else 1) = (1 : Int32)) ∧ (r = some (.int (if r8 = (0 : Int32) then 0 else 1)) ∧ M' = M6))))))))) ∧ (¬ ((v1 : Int32) ≤ v4) → (∃ (r13 : Int32) (M11 : MM), Fn 1 mX3_tells [.ref 37, .int v2, .int ((v1 - 1) - v4), .int v3] M (some (.int r13)) M11 ∧ ((r13 = (0 : Int32) → ((v4 = (0 : Int32) → (r = some (.int 1) ∧ M' = M11)) ∧ (¬ (v4 = (0 : Int32)) → (vp_in v3 4) ∧ ((((M11.1 19 v3.toNatClampNeg) : Int32) ≤ v4 → (r = some (.int 1) ∧ M' = M11)) ∧ (¬ (((M11.1 19 v3.toNatClampNeg) : Int32) ≤ v4) → ((¬ v4 = (v1 : Int32) → (r = some (.int 0) ∧ M' = M11)) ∧ (v4 = (v1 : Int32) → (∃ (r21 : Int32) (M19 : MM), Fn 1 mX4_isOn [.ref 15, .int v3] M11 (some (.int r21)) M19 ∧ ((if r21 = (0 : Int32) then 0 else 1) = (0 : Int32) ∨ (if r21 = (0 : Int32) then 0 else 1) = (1 : Int32)) ∧ (r = some (.int (if r21 = (0 : Int32) then 0 else 1)) ∧ M' = M19))))))))) ∧ (¬ (r13 = (0 : Int32)) → (∀ x24 : Int32, x24 = v4 + 1 → At_X3_mayEnd_3 G v1 v2 v3 x24 M11))))))) : At_X3_mayEnd_3 G v1 v2 v3 v4 M := by
  unfold At_X3_mayEnd_3
  refine e_iload (pc := 3) g 4 dX3_mayEnd_3 rfl ?_
  refine e_iload_n (pc := 5) g 1 dX3_mayEnd_5 rfl ?_
  refine e_icmp_ge (pc := 6) g 30 dX3_mayEnd_6 (by decide) (fun c1 => ?_) (fun c1 => ?_)
  · have h := h.1 c1
    refine e_iload (pc := 30) g 4 dX3_mayEnd_30 rfl ?_
    refine e_if_eq (pc := 32) g 72 dX3_mayEnd_32 (by decide) (fun c2 => ?_) (fun c2 => ?_)
    · have h := h.1 c2
      refine e_iconst (pc := 72) g 1 dX3_mayEnd_72 kc_1 ?_
      refine e_goto (pc := 73) g 77 dX3_mayEnd_73 (by decide) ?_
      exact e_zret (pc := 77) g gr rfl (by decide) dX3_mayEnd_77 h
    · have h := h.2 c2
      refine e_iload (pc := 35) g 4 dX3_mayEnd_35 rfl ?_
      refine e_aload_n (pc := 37) g 0 dX3_mayEnd_37 rfl ?_
      refine e_getR (pc := 38) g 1 fl_X3_23 sh_37 rfl dX3_mayEnd_38 ?_
      refine e_getR (pc := 41) g 15 fl_X3_54 sh_1 rfl dX3_mayEnd_41 ?_
      refine e_getR (pc := 44) g 19 fl_X3_97 sh_15 rfl dX3_mayEnd_44 ?_
      refine e_iload_n (pc := 47) g 3 dX3_mayEnd_47 rfl ?_
      obtain ⟨o3, h⟩ := h
      refine e_iald (pc := 48) g sh_19 o3 dX3_mayEnd_48 ?_
      refine e_icmp_ge (pc := 49) g 72 dX3_mayEnd_49 (by decide) (fun c4 => ?_) (fun c4 => ?_)
      · have h := h.1 c4
        refine e_iconst (pc := 72) g 1 dX3_mayEnd_72 kc_1 ?_
        refine e_goto (pc := 73) g 77 dX3_mayEnd_73 (by decide) ?_
        exact e_zret (pc := 77) g gr rfl (by decide) dX3_mayEnd_77 h
      · have h := h.2 c4
        refine e_iload (pc := 52) g 4 dX3_mayEnd_52 rfl ?_
        refine e_iload_n (pc := 54) g 1 dX3_mayEnd_54 rfl ?_
        refine e_icmp_ne (pc := 55) g 76 dX3_mayEnd_55 (by decide) (fun c5 => ?_) (fun c5 => ?_)
        · have h := h.1 c5
          refine e_iconst (pc := 76) g 0 dX3_mayEnd_76 kc_0 ?_
          exact e_zret (pc := 77) g gr rfl (by decide) dX3_mayEnd_77 h
        · have h := h.2 c5
          refine e_aload_n (pc := 58) g 0 dX3_mayEnd_58 rfl ?_
          refine e_getR (pc := 59) g 1 fl_X3_23 sh_37 rfl dX3_mayEnd_59 ?_
          refine e_getR (pc := 62) g 15 fl_X3_54 sh_1 rfl dX3_mayEnd_62 ?_
          refine e_iload_n (pc := 65) g 3 dX3_mayEnd_65 rfl ?_
          obtain ⟨r8, M6, f7, h⟩ := h
          refine e_callV (As := [.int v3]) (S := []) (pc := 66) g ok_X4_isOn ml_X3_101 sh_15 ⟨_, rfl, rfl⟩ f7 (by omega) rfl (Nat.le_of_ble_eq_true rfl) dX3_mayEnd_66 ?_
          refine e_to (S' := [.int r8]) rfl rfl rfl ?_
          have hj : Ev G 77 [(0, .ref 37), (1, .int v1), (2, .int v2), (3, .int v3), (4, .int v4)] [.int (if r8 = (0 : Int32) then 0 else 1)] M6 := by
            obtain ⟨o10, h⟩ := h
            exact e_zret (pc := 77) g gr rfl o10 dX3_mayEnd_77 h
          refine e_if_eq (pc := 69) g 76 dX3_mayEnd_69 (by decide) (fun c9 => ?_) (fun c9 => ?_)
          · rw [if_pos c9] at hj
            refine e_iconst (pc := 76) g 0 dX3_mayEnd_76 kc_0 ?_
            exact hj
          · rw [if_neg c9] at hj
            refine e_iconst (pc := 72) g 1 dX3_mayEnd_72 kc_1 ?_
            refine e_goto (pc := 73) g 77 dX3_mayEnd_73 (by decide) ?_
            exact hj
  · have h := h.2 c1
    refine e_aload_n (pc := 9) g 0 dX3_mayEnd_9 rfl ?_
    refine e_iload_n (pc := 10) g 2 dX3_mayEnd_10 rfl ?_
    refine e_iload_n (pc := 11) g 1 dX3_mayEnd_11 rfl ?_
    refine e_iconst (pc := 12) g 1 dX3_mayEnd_12 kc_1 ?_
    refine e_isub (pc := 13) g dX3_mayEnd_13 ?_
    refine e_iload (pc := 14) g 4 dX3_mayEnd_14 rfl ?_
    refine e_isub (pc := 16) g dX3_mayEnd_16 ?_
    refine e_iload_n (pc := 17) g 3 dX3_mayEnd_17 rfl ?_
    obtain ⟨r13, M11, f12, h⟩ := h
    refine e_callV (As := [.int v2, .int ((v1 - 1) - v4), .int v3]) (S := []) (pc := 18) g ok_X3_tells ml_X3_87 sh_37 ⟨_, rfl, rfl⟩ f12 (by omega) rfl (Nat.le_of_ble_eq_true rfl) dX3_mayEnd_18 ?_
    refine e_to (S' := [.int r13]) rfl rfl rfl ?_
    refine e_if_eq (pc := 21) g 30 dX3_mayEnd_21 (by decide) (fun c14 => ?_) (fun c14 => ?_)
    · have h := h.1 c14
      refine e_iload (pc := 30) g 4 dX3_mayEnd_30 rfl ?_
      refine e_if_eq (pc := 32) g 72 dX3_mayEnd_32 (by decide) (fun c15 => ?_) (fun c15 => ?_)
      · have h := h.1 c15
        refine e_iconst (pc := 72) g 1 dX3_mayEnd_72 kc_1 ?_
        refine e_goto (pc := 73) g 77 dX3_mayEnd_73 (by decide) ?_
        exact e_zret (pc := 77) g gr rfl (by decide) dX3_mayEnd_77 h
      · have h := h.2 c15
        refine e_iload (pc := 35) g 4 dX3_mayEnd_35 rfl ?_
        refine e_aload_n (pc := 37) g 0 dX3_mayEnd_37 rfl ?_
        refine e_getR (pc := 38) g 1 fl_X3_23 sh_37 rfl dX3_mayEnd_38 ?_
        refine e_getR (pc := 41) g 15 fl_X3_54 sh_1 rfl dX3_mayEnd_41 ?_
        refine e_getR (pc := 44) g 19 fl_X3_97 sh_15 rfl dX3_mayEnd_44 ?_
        refine e_iload_n (pc := 47) g 3 dX3_mayEnd_47 rfl ?_
        obtain ⟨o16, h⟩ := h
        refine e_iald (pc := 48) g sh_19 o16 dX3_mayEnd_48 ?_
        refine e_icmp_ge (pc := 49) g 72 dX3_mayEnd_49 (by decide) (fun c17 => ?_) (fun c17 => ?_)
        · have h := h.1 c17
          refine e_iconst (pc := 72) g 1 dX3_mayEnd_72 kc_1 ?_
          refine e_goto (pc := 73) g 77 dX3_mayEnd_73 (by decide) ?_
          exact e_zret (pc := 77) g gr rfl (by decide) dX3_mayEnd_77 h
        · have h := h.2 c17
          refine e_iload (pc := 52) g 4 dX3_mayEnd_52 rfl ?_
          refine e_iload_n (pc := 54) g 1 dX3_mayEnd_54 rfl ?_
          refine e_icmp_ne (pc := 55) g 76 dX3_mayEnd_55 (by decide) (fun c18 => ?_) (fun c18 => ?_)
          · have h := h.1 c18
            refine e_iconst (pc := 76) g 0 dX3_mayEnd_76 kc_0 ?_
            exact e_zret (pc := 77) g gr rfl (by decide) dX3_mayEnd_77 h
          · have h := h.2 c18
            refine e_aload_n (pc := 58) g 0 dX3_mayEnd_58 rfl ?_
            refine e_getR (pc := 59) g 1 fl_X3_23 sh_37 rfl dX3_mayEnd_59 ?_
            refine e_getR (pc := 62) g 15 fl_X3_54 sh_1 rfl dX3_mayEnd_62 ?_
            refine e_iload_n (pc := 65) g 3 dX3_mayEnd_65 rfl ?_
            obtain ⟨r21, M19, f20, h⟩ := h
            refine e_callV (As := [.int v3]) (S := []) (pc := 66) g ok_X4_isOn ml_X3_101 sh_15 ⟨_, rfl, rfl⟩ f20 (by omega) rfl (Nat.le_of_ble_eq_true rfl) dX3_mayEnd_66 ?_
            refine e_to (S' := [.int r21]) rfl rfl rfl ?_
            have hj : Ev G 77 [(0, .ref 37), (1, .int v1), (2, .int v2), (3, .int v3), (4, .int v4)] [.int (if r21 = (0 : Int32) then 0 else 1)] M19 := by
              obtain ⟨o23, h⟩ := h
              exact e_zret (pc := 77) g gr rfl o23 dX3_mayEnd_77 h
            refine e_if_eq (pc := 69) g 76 dX3_mayEnd_69 (by decide) (fun c22 => ?_) (fun c22 => ?_)
            · rw [if_pos c22] at hj
              refine e_iconst (pc := 76) g 0 dX3_mayEnd_76 kc_0 ?_
              exact hj
            · rw [if_neg c22] at hj
              refine e_iconst (pc := 72) g 1 dX3_mayEnd_72 kc_1 ?_
              refine e_goto (pc := 73) g 77 dX3_mayEnd_73 (by decide) ?_
              exact hj
    · have h := h.2 c14
      obtain ⟨x24, qx24⟩ : ∃ y : Int32, y = v4 + 1 := ⟨_, rfl⟩
      have h := h x24 qx24
      refine e_iinc (pc := 24) g 4 x24 [(0, .ref 37), (1, .int v1), (2, .int v2), (3, .int v3), (4, .int x24)] dX3_mayEnd_24 rfl (by rw [qx24]; rfl) (by decide) rfl ?_
      refine e_goto (pc := 27) g 3 dX3_mayEnd_27 (by decide) ?_
      exact h
/-- at the cut 5 of X3_costOf -/
def At_X3_costOf_5 (G : GC)  (v1 : Int32) (v2 : Int32) (v3 : Int64) (v5 : Int32)  (M : MM) : Prop := Ev G 5 [(0, .ref 37), (1, .int v1), (2, .int v2), (3, .long v3), (5, .int v5)] [] M
set_option maxHeartbeats 4000000 in
set_option maxRecDepth 100000 in
theorem b_X3_costOf_0 {G : GC} {n : Nat} {r : Option Value} {M' : MM} (g : Good G mX3_costOf n) (gr : GoodR G r M') (hn : 4 ≤ n) (a1 : Int32) (a2 : Int32)   (M : MM) (h : At_X3_costOf_5 G a1 a2 0 0 M) : Ev G 0 [(0, .ref 37), (1, .int a1), (2, .int a2)] [] M := by
  refine e_lconst (pc := 0) g 0 dX3_costOf_0 kl_0 ?_
  refine e_lstore_n (pc := 1) g [(0, .ref 37), (1, .int a1), (2, .int a2), (3, .long 0)] dX3_costOf_1 (by decide) rfl ?_
  refine e_iconst (pc := 2) g 0 dX3_costOf_2 kc_0 ?_
  refine e_istore (pc := 3) g [(0, .ref 37), (1, .int a1), (2, .int a2), (3, .long 0), (5, .int 0)] dX3_costOf_3 (by decide) rfl ?_
  exact h
set_option maxHeartbeats 4000000 in
set_option maxRecDepth 100000 in
theorem b_X3_costOf_5 {G : GC} {n : Nat} {r : Option Value} {M' : MM} (g : Good G mX3_costOf n) (gr : GoodR G r M') (hn : 4 ≤ n)  (v1 : Int32) (v2 : Int32) (v3 : Int64) (v5 : Int32)  (M : MM) (h : (((v1 : Int32) ≤ v5 → (r = some (.long v3) ∧ M' = M)) ∧ (¬ ((v1 : Int32) ≤ v5) → (∃ (r4 : Int32) (M2 : MM), Fn 1 mX3_bitsOf [.ref 37, .int v2, .int v5] M (some (.int r4)) M2 ∧ (∃ (r7 : Int32) (M5 : MM), Fn 3 mX2_cost [.ref 1, .int r4, .int ((M2.1 1 7) + v5)] M2 (some (.int r7)) M5 ∧ (∀ x8 : Int64, x8 = (v3 + (r7.toInt64)) → (∀ x9 : Int32, x9 = v5 + 1 → At_X3_costOf_5 G v1 v2 x8 x9 M5))))))) : At_X3_costOf_5 G v1 v2 v3 v5 M := by
  unfold At_X3_costOf_5
  refine e_iload (pc := 5) g 4 dX3_costOf_5 rfl ?_
  refine e_iload_n (pc := 7) g 1 dX3_costOf_7 rfl ?_
  refine e_icmp_ge (pc := 8) g 45 dX3_costOf_8 (by decide) (fun c1 => ?_) (fun c1 => ?_)
  · have h := h.1 c1
    refine e_lload_n (pc := 45) g 3 dX3_costOf_45 rfl ?_
    exact e_lret (pc := 46) g gr rfl dX3_costOf_46 h
  · have h := h.2 c1
    refine e_lload_n (pc := 11) g 3 dX3_costOf_11 rfl ?_
    refine e_aload_n (pc := 12) g 0 dX3_costOf_12 rfl ?_
    refine e_getR (pc := 13) g 1 fl_X3_23 sh_37 rfl dX3_costOf_13 ?_
    refine e_aload_n (pc := 16) g 0 dX3_costOf_16 rfl ?_
    refine e_iload_n (pc := 17) g 2 dX3_costOf_17 rfl ?_
    refine e_iload (pc := 18) g 4 dX3_costOf_18 rfl ?_
    obtain ⟨r4, M2, f3, h⟩ := h
    refine e_callV (As := [.int v2, .int v5]) (S := [.ref 1, .long v3]) (pc := 20) g ok_X3_bitsOf ml_X3_84 sh_37 ⟨_, rfl, rfl⟩ f3 (by omega) rfl (Nat.le_of_ble_eq_true rfl) dX3_costOf_20 ?_
    refine e_to (S' := [.int r4, .ref 1, .long v3]) rfl rfl rfl ?_
    refine e_aload_n (pc := 23) g 0 dX3_costOf_23 rfl ?_
    refine e_getR (pc := 24) g 1 fl_X3_23 sh_37 rfl dX3_costOf_24 ?_
    refine e_getI (pc := 27) g fl_X3_66 sh_1 rfl dX3_costOf_27 ?_
    refine e_iload (pc := 30) g 4 dX3_costOf_30 rfl ?_
    refine e_iadd (pc := 32) g dX3_costOf_32 ?_
    obtain ⟨r7, M5, f6, h⟩ := h
    refine e_callV (As := [.int r4, .int ((M2.1 1 7) + v5)]) (S := [.long v3]) (pc := 33) g ok_X2_cost ml_X3_69 sh_1 ⟨_, rfl, rfl⟩ f6 (by omega) rfl (Nat.le_of_ble_eq_true rfl) dX3_costOf_33 ?_
    refine e_to (S' := [.int r7, .long v3]) rfl rfl rfl ?_
    refine e_i2l (pc := 36) g dX3_costOf_36 ?_
    refine e_ladd (pc := 37) g dX3_costOf_37 ?_
    obtain ⟨x8, qx8⟩ : ∃ y : Int64, y = (v3 + (r7.toInt64)) := ⟨_, rfl⟩
    have h := h x8 qx8
    refine e_to (S' := [.long x8]) rfl (by rw [qx8]) rfl ?_
    refine e_lstore_n (pc := 38) g [(0, .ref 37), (1, .int v1), (2, .int v2), (3, .long x8), (5, .int v5)] dX3_costOf_38 (by decide) rfl ?_
    obtain ⟨x9, qx9⟩ : ∃ y : Int32, y = v5 + 1 := ⟨_, rfl⟩
    have h := h x9 qx9
    refine e_iinc (pc := 39) g 4 x9 [(0, .ref 37), (1, .int v1), (2, .int v2), (3, .long x8), (5, .int x9)] dX3_costOf_39 rfl (by rw [qx9]; rfl) (by decide) rfl ?_
    refine e_goto (pc := 42) g 5 dX3_costOf_42 (by decide) ?_
    exact h
/-- at the cut 9 of X3_breachOf -/
def At_X3_breachOf_9 (G : GC)  (v1 : Int32) (v2 : Int32) (v3 : Int64) (v5 : Int32)  (M : MM) : Prop := Ev G 9 [(0, .ref 37), (1, .int v1), (2, .int v2), (3, .long v3), (5, .int v5)] [] M
set_option maxHeartbeats 4000000 in
set_option maxRecDepth 100000 in
theorem b_X3_breachOf_0 {G : GC} {n : Nat} {r : Option Value} {M' : MM} (g : Good G mX3_breachOf n) (gr : GoodR G r M') (hn : 6 ≤ n) (a1 : Int32) (a2 : Int32)   (M : MM) (h : (∃ M1 : MM, Fn 3 mX3_begin [.ref 37] M none M1 ∧ At_X3_breachOf_9 G a1 a2 0 0 M1)) : Ev G 0 [(0, .ref 37), (1, .int a1), (2, .int a2)] [] M := by
  refine e_aload_n (pc := 0) g 0 dX3_breachOf_0 rfl ?_
  obtain ⟨M1, f2, h⟩ := h
  refine e_callV (As := []) (S := []) (pc := 1) g ok_X3_begin ml_X3_47 sh_37 ⟨_, rfl, rfl⟩ f2 (by omega) rfl (Nat.le_of_ble_eq_true rfl) dX3_breachOf_1 ?_
  refine e_to (S' := []) rfl rfl rfl ?_
  refine e_lconst (pc := 4) g 0 dX3_breachOf_4 kl_0 ?_
  refine e_lstore_n (pc := 5) g [(0, .ref 37), (1, .int a1), (2, .int a2), (3, .long 0)] dX3_breachOf_5 (by decide) rfl ?_
  refine e_iconst (pc := 6) g 0 dX3_breachOf_6 kc_0 ?_
  refine e_istore (pc := 7) g [(0, .ref 37), (1, .int a1), (2, .int a2), (3, .long 0), (5, .int 0)] dX3_breachOf_7 (by decide) rfl ?_
  exact h
set_option maxHeartbeats 4000000 in
set_option maxRecDepth 100000 in
theorem b_X3_breachOf_9 {G : GC} {n : Nat} {r : Option Value} {M' : MM} (g : Good G mX3_breachOf n) (gr : GoodR G r M') (hn : 6 ≤ n)  (v1 : Int32) (v2 : Int32) (v3 : Int64) (v5 : Int32)  (M : MM) (h : (((v1 : Int32) ≤ v5 → (r = some (.long v3) ∧ M' = M)) ∧ (¬ ((v1 : Int32) ≤ v5) → (∃ (r4 : Int32) (M2 : MM), Fn 1 mX3_bitsOf [.ref 37, .int v2, .int v5] M (some (.int r4)) M2 ∧ (∃ (r7 : Int64) (M5 : MM), Fn 5 mX3_tread [.ref 37, .int v5, .int r4] M2 (some (.long r7)) M5 ∧ (∀ x8 : Int64, x8 = (v3 + r7) → (∀ x9 : Int32, x9 = v5 + 1 → At_X3_breachOf_9 G v1 v2 x8 x9 M5))))))) : At_X3_breachOf_9 G v1 v2 v3 v5 M := by
  unfold At_X3_breachOf_9
  refine e_iload (pc := 9) g 4 dX3_breachOf_9 rfl ?_
  refine e_iload_n (pc := 11) g 1 dX3_breachOf_11 rfl ?_
  refine e_icmp_ge (pc := 12) g 37 dX3_breachOf_12 (by decide) (fun c1 => ?_) (fun c1 => ?_)
  · have h := h.1 c1
    refine e_lload_n (pc := 37) g 3 dX3_breachOf_37 rfl ?_
    exact e_lret (pc := 38) g gr rfl dX3_breachOf_38 h
  · have h := h.2 c1
    refine e_lload_n (pc := 15) g 3 dX3_breachOf_15 rfl ?_
    refine e_aload_n (pc := 16) g 0 dX3_breachOf_16 rfl ?_
    refine e_iload (pc := 17) g 4 dX3_breachOf_17 rfl ?_
    refine e_aload_n (pc := 19) g 0 dX3_breachOf_19 rfl ?_
    refine e_iload_n (pc := 20) g 2 dX3_breachOf_20 rfl ?_
    refine e_iload (pc := 21) g 4 dX3_breachOf_21 rfl ?_
    obtain ⟨r4, M2, f3, h⟩ := h
    refine e_callV (As := [.int v2, .int v5]) (S := [.int v5, .ref 37, .long v3]) (pc := 23) g ok_X3_bitsOf ml_X3_84 sh_37 ⟨_, rfl, rfl⟩ f3 (by omega) rfl (Nat.le_of_ble_eq_true rfl) dX3_breachOf_23 ?_
    refine e_to (S' := [.int r4, .int v5, .ref 37, .long v3]) rfl rfl rfl ?_
    obtain ⟨r7, M5, f6, h⟩ := h
    refine e_callV (As := [.int v5, .int r4]) (S := [.long v3]) (pc := 26) g ok_X3_tread ml_X3_80 sh_37 ⟨_, rfl, rfl⟩ f6 (by omega) rfl (Nat.le_of_ble_eq_true rfl) dX3_breachOf_26 ?_
    refine e_to (S' := [.long r7, .long v3]) rfl rfl rfl ?_
    refine e_ladd (pc := 29) g dX3_breachOf_29 ?_
    obtain ⟨x8, qx8⟩ : ∃ y : Int64, y = (v3 + r7) := ⟨_, rfl⟩
    have h := h x8 qx8
    refine e_to (S' := [.long x8]) rfl (by rw [qx8]) rfl ?_
    refine e_lstore_n (pc := 30) g [(0, .ref 37), (1, .int v1), (2, .int v2), (3, .long x8), (5, .int v5)] dX3_breachOf_30 (by decide) rfl ?_
    obtain ⟨x9, qx9⟩ : ∃ y : Int32, y = v5 + 1 := ⟨_, rfl⟩
    have h := h x9 qx9
    refine e_iinc (pc := 31) g 4 x9 [(0, .ref 37), (1, .int v1), (2, .int v2), (3, .long x8), (5, .int x9)] dX3_breachOf_31 rfl (by rw [qx9]; rfl) (by decide) rfl ?_
    refine e_goto (pc := 34) g 9 dX3_breachOf_34 (by decide) ?_
    exact h
/-- at the cut 2 of X3_begin -/
def At_X3_begin_2 (G : GC)  (v1 : Int32)  (M : MM) : Prop := Ev G 2 [(0, .ref 37), (1, .int v1)] [] M
set_option maxHeartbeats 4000000 in
set_option maxRecDepth 100000 in
theorem b_X3_begin_0 {G : GC} {n : Nat} {r : Option Value} {M' : MM} (g : Good G mX3_begin n) (gr : GoodR G r M') (hn : 3 ≤ n)    (M : MM) (h : At_X3_begin_2 G 0 M) : Ev G 0 [(0, .ref 37)] [] M := by
  refine e_iconst (pc := 0) g 0 dX3_begin_0 kc_0 ?_
  refine e_istore_n (pc := 1) g [(0, .ref 37), (1, .int 0)] dX3_begin_1 (by decide) rfl ?_
  exact h
set_option maxHeartbeats 4000000 in
set_option maxRecDepth 100000 in
theorem b_X3_begin_2 {G : GC} {n : Nat} {r : Option Value} {M' : MM} (g : Good G mX3_begin n) (gr : GoodR G r M') (hn : 3 ≤ n)  (v1 : Int32)  (M : MM) (h : (∃ (r3 : Int32) (M1 : MM), Fn 2 mX8_tried [.ref 32] M (some (.int r3)) M1 ∧ (((r3 : Int32) ≤ v1 → (r = none ∧ M' = M1)) ∧ (¬ ((r3 : Int32) ≤ v1) → (vp_in v1 21) ∧ (shp (39 + v1.toNatClampNeg) = (1, 0, 6, [])) ∧ (¬ 0 < (0 : Int32)) ∧ (¬ (M1.1 2 7) < (0 : Int32)) ∧ ((0 : Int32).toNatClampNeg + (M1.1 2 7).toNatClampNeg ≤ 6) ∧ (∀ M10 : MM, M10 = uc M1 (39 + v1.toNatClampNeg) (va_cpy (M1.1 7) (M1.1 (39 + v1.toNatClampNeg)) (0 : Int32).toNatClampNeg (0 : Int32).toNatClampNeg (M1.1 2 7).toNatClampNeg) → (∀ x11 : Int32, x11 = v1 + 1 → At_X3_begin_2 G x11 M10)))))) : At_X3_begin_2 G v1 M := by
  unfold At_X3_begin_2
  refine e_iload_n (pc := 2) g 1 dX3_begin_2 rfl ?_
  refine e_aload_n (pc := 3) g 0 dX3_begin_3 rfl ?_
  refine e_getR (pc := 4) g 32 fl_X3_27 sh_37 rfl dX3_begin_4 ?_
  obtain ⟨r3, M1, f2, h⟩ := h
  refine e_callV (As := []) (S := [.int v1]) (pc := 7) g ok_X8_tried ml_X3_105 sh_32 ⟨_, rfl, rfl⟩ f2 (by omega) rfl (Nat.le_of_ble_eq_true rfl) dX3_begin_7 ?_
  refine e_to (S' := [.int r3, .int v1]) rfl rfl rfl ?_
  refine e_icmp_ge (pc := 10) g 50 dX3_begin_10 (by decide) (fun c4 => ?_) (fun c4 => ?_)
  · have h := h.1 c4
    exact e_vret (pc := 50) g gr rfl dX3_begin_50 h
  · have h := h.2 c4
    refine e_aload_n (pc := 13) g 0 dX3_begin_13 rfl ?_
    refine e_getR (pc := 14) g 1 fl_X3_23 sh_37 rfl dX3_begin_14 ?_
    refine e_getR (pc := 17) g 2 fl_X3_110 sh_1 rfl dX3_begin_17 ?_
    refine e_getR (pc := 20) g 7 fl_X3_114 sh_2 rfl dX3_begin_20 ?_
    refine e_iconst (pc := 23) g 0 dX3_begin_23 kc_0 ?_
    refine e_aload_n (pc := 24) g 0 dX3_begin_24 rfl ?_
    refine e_getR (pc := 25) g 38 fl_X3_11 sh_37 rfl dX3_begin_25 ?_
    refine e_iload_n (pc := 28) g 1 dX3_begin_28 rfl ?_
    obtain ⟨o5, h⟩ := h
    refine e_aald (pc := 29) g sh_38 o5 dX3_begin_29 ?_
    obtain ⟨o6, h⟩ := h
    refine e_iconst (pc := 30) g 0 dX3_begin_30 kc_0 ?_
    refine e_aload_n (pc := 31) g 0 dX3_begin_31 rfl ?_
    refine e_getR (pc := 32) g 1 fl_X3_23 sh_37 rfl dX3_begin_32 ?_
    refine e_getR (pc := 35) g 2 fl_X3_110 sh_1 rfl dX3_begin_35 ?_
    refine e_getI (pc := 38) g fl_X3_119 sh_2 rfl dX3_begin_38 ?_
    obtain ⟨o7, h⟩ := h
    obtain ⟨o8, h⟩ := h
    obtain ⟨o9, h⟩ := h
    refine e_copy (pc := 41) g (by omega) mc_X3_122 ac_nat ac_stat ac_ini sh_7 o6 o7 o7 o8 o9 o9 (Nat.le_of_ble_eq_true rfl) dX3_begin_41 ?_
    obtain ⟨M10, qM10⟩ : ∃ y : MM, y = uc M1 (39 + v1.toNatClampNeg) (va_cpy (M1.1 7) (M1.1 (39 + v1.toNatClampNeg)) (0 : Int32).toNatClampNeg (0 : Int32).toNatClampNeg (M1.1 2 7).toNatClampNeg) := ⟨_, rfl⟩
    have h := h M10 qM10
    refine e_to (M' := M10) rfl rfl (by rw [qM10]) ?_
    obtain ⟨x11, qx11⟩ : ∃ y : Int32, y = v1 + 1 := ⟨_, rfl⟩
    have h := h x11 qx11
    refine e_iinc (pc := 44) g 1 x11 [(0, .ref 37), (1, .int x11)] dX3_begin_44 rfl (by rw [qx11]; rfl) (by decide) rfl ?_
    refine e_goto (pc := 47) g 2 dX3_begin_47 (by decide) ?_
    exact h
/-- at the cut 49 of X3_tread -/
def At_X3_tread_49 (G : GC)  (v1 : Int32) (v2 : Int32) (v3 : Int32) (v4 : Int32) (v5 : Int32) (v6 : Int64) (v8 : Int32)  (M : MM) : Prop := Ev G 49 [(0, .ref 37), (1, .int v1), (2, .int v2), (3, .int v3), (4, .int v4), (5, .int v5), (6, .long v6), (8, .int v8)] [] M
set_option maxHeartbeats 4000000 in
set_option maxRecDepth 100000 in
theorem b_X3_tread_0 {G : GC} {n : Nat} {r : Option Value} {M' : MM} (g : Good G mX3_tread n) (gr : GoodR G r M') (hn : 5 ≤ n) (a1 : Int32) (a2 : Int32)   (M : MM) (h : (∀ x1 : Int32, x1 = ((M.1 1 7) + a1) → (∀ x2 : Int32, x2 = (((M.1 15 6) >>> (2 &&& 31)) <<< (2 &&& 31)) → (∃ (r5 : Int32) (M3 : MM), Fn 4 mX4_awake [.ref 15, .int x2, .int x1] M (some (.int r5)) M3 ∧ (∀ x6 : Int32, x6 = (a2 ||| r5) → At_X3_tread_49 G a1 a2 x1 x2 x6 0 0 M3))))) : Ev G 0 [(0, .ref 37), (1, .int a1), (2, .int a2)] [] M := by
  refine e_aload_n (pc := 0) g 0 dX3_tread_0 rfl ?_
  refine e_getR (pc := 1) g 1 fl_X3_23 sh_37 rfl dX3_tread_1 ?_
  refine e_getI (pc := 4) g fl_X3_66 sh_1 rfl dX3_tread_4 ?_
  refine e_iload_n (pc := 7) g 1 dX3_tread_7 rfl ?_
  refine e_iadd (pc := 8) g dX3_tread_8 ?_
  obtain ⟨x1, qx1⟩ : ∃ y : Int32, y = ((M.1 1 7) + a1) := ⟨_, rfl⟩
  have h := h x1 qx1
  refine e_to (S' := [.int x1]) rfl (by rw [qx1]) rfl ?_
  refine e_istore_n (pc := 9) g [(0, .ref 37), (1, .int a1), (2, .int a2), (3, .int x1)] dX3_tread_9 (by decide) rfl ?_
  refine e_aload_n (pc := 10) g 0 dX3_tread_10 rfl ?_
  refine e_getR (pc := 11) g 1 fl_X3_23 sh_37 rfl dX3_tread_11 ?_
  refine e_getR (pc := 14) g 15 fl_X3_54 sh_1 rfl dX3_tread_14 ?_
  refine e_getI (pc := 17) g fl_X3_128 sh_15 rfl dX3_tread_17 ?_
  refine e_iconst (pc := 20) g 2 dX3_tread_20 kc_2 ?_
  refine e_ishr (pc := 21) g dX3_tread_21 ?_
  refine e_iconst (pc := 22) g 2 dX3_tread_22 kc_2 ?_
  refine e_ishl (pc := 23) g dX3_tread_23 ?_
  obtain ⟨x2, qx2⟩ : ∃ y : Int32, y = (((M.1 15 6) >>> (2 &&& 31)) <<< (2 &&& 31)) := ⟨_, rfl⟩
  have h := h x2 qx2
  refine e_to (S' := [.int x2]) rfl (by rw [qx2]) rfl ?_
  refine e_istore (pc := 24) g [(0, .ref 37), (1, .int a1), (2, .int a2), (3, .int x1), (4, .int x2)] dX3_tread_24 (by decide) rfl ?_
  refine e_iload_n (pc := 26) g 2 dX3_tread_26 rfl ?_
  refine e_aload_n (pc := 27) g 0 dX3_tread_27 rfl ?_
  refine e_getR (pc := 28) g 1 fl_X3_23 sh_37 rfl dX3_tread_28 ?_
  refine e_getR (pc := 31) g 15 fl_X3_54 sh_1 rfl dX3_tread_31 ?_
  refine e_iload (pc := 34) g 4 dX3_tread_34 rfl ?_
  refine e_iload_n (pc := 36) g 3 dX3_tread_36 rfl ?_
  obtain ⟨r5, M3, f4, h⟩ := h
  refine e_callV (As := [.int x2, .int x1]) (S := [.int a2]) (pc := 37) g ok_X4_awake ml_X3_131 sh_15 ⟨_, rfl, rfl⟩ f4 (by omega) rfl (Nat.le_of_ble_eq_true rfl) dX3_tread_37 ?_
  refine e_to (S' := [.int r5, .int a2]) rfl rfl rfl ?_
  refine e_ior (pc := 40) g dX3_tread_40 ?_
  obtain ⟨x6, qx6⟩ : ∃ y : Int32, y = (a2 ||| r5) := ⟨_, rfl⟩
  have h := h x6 qx6
  refine e_to (S' := [.int x6]) rfl (by rw [qx6]) rfl ?_
  refine e_istore (pc := 41) g [(0, .ref 37), (1, .int a1), (2, .int a2), (3, .int x1), (4, .int x2), (5, .int x6)] dX3_tread_41 (by decide) rfl ?_
  refine e_lconst (pc := 43) g 0 dX3_tread_43 kl_0 ?_
  refine e_lstore (pc := 44) g [(0, .ref 37), (1, .int a1), (2, .int a2), (3, .int x1), (4, .int x2), (5, .int x6), (6, .long 0)] dX3_tread_44 (by decide) rfl ?_
  refine e_iconst (pc := 46) g 0 dX3_tread_46 kc_0 ?_
  refine e_istore (pc := 47) g [(0, .ref 37), (1, .int a1), (2, .int a2), (3, .int x1), (4, .int x2), (5, .int x6), (6, .long 0), (8, .int 0)] dX3_tread_47 (by decide) rfl ?_
  exact h
set_option maxHeartbeats 4000000 in
set_option maxRecDepth 100000 in
theorem b_X3_tread_49 {G : GC} {n : Nat} {r : Option Value} {M' : MM} (g : Good G mX3_tread n) (gr : GoodR G r M') (hn : 5 ≤ n)  (v1 : Int32) (v2 : Int32) (v3 : Int32) (v4 : Int32) (v5 : Int32) (v6 : Int64) (v8 : Int32)  (M : MM) (h : (∃ (r3 : Int32) (M1 : MM), Fn 2 mX8_tried [.ref 32] M (some (.int r3)) M1 ∧ (((r3 : Int32) ≤ v8 → (r = some (.long v6) ∧ M' = M1)) ∧ (¬ ((r3 : Int32) ≤ v8) → (vp_in (((v1 + 1) * 3) + v8) 21) ∧ (shp (39 + (((v1 + 1) * 3) + v8).toNatClampNeg) = (1, 0, 6, [])) ∧ (vp_in ((v1 * 3) + v8) 21) ∧ (shp (39 + ((v1 * 3) + v8).toNatClampNeg) = (1, 0, 6, [])) ∧ (¬ 0 < (0 : Int32)) ∧ (¬ (M1.1 2 7) < (0 : Int32)) ∧ ((0 : Int32).toNatClampNeg + (M1.1 2 7).toNatClampNeg ≤ 6) ∧ (∀ M12 : MM, M12 = uc M1 (39 + (((v1 + 1) * 3) + v8).toNatClampNeg) (va_cpy (M1.1 (39 + ((v1 * 3) + v8).toNatClampNeg)) (M1.1 (39 + (((v1 + 1) * 3) + v8).toNatClampNeg)) (0 : Int32).toNatClampNeg (0 : Int32).toNatClampNeg (M1.1 2 7).toNatClampNeg) → (vp_in v8 3) ∧ (shp (34 + v8.toNatClampNeg) = (1, 0, 6, [])) ∧ (vp_in v1 6) ∧ (∃ M16 : MM, Fn 3 mX2_move [.ref 1, .ref (39 + (((v1 + 1) * 3) + v8).toNatClampNeg), .int (M12.1 (34 + v8.toNatClampNeg) v1.toNatClampNeg), .int v3, .int v5, .ref 60] M12 none M16 ∧ (∃ (r20 : Int64) (M18 : MM), Fn 3 mX0_allBreach [.ref 2, .ref (39 + (((v1 + 1) * 3) + v8).toNatClampNeg)] M16 (some (.long r20)) M18 ∧ (∀ x21 : Int64, x21 = (v6 + r20) → (∀ x22 : Int32, x22 = v8 + 1 → At_X3_tread_49 G v1 v2 v3 v4 v5 x21 x22 M18))))))))) : At_X3_tread_49 G v1 v2 v3 v4 v5 v6 v8 M := by
  unfold At_X3_tread_49
  refine e_iload (pc := 49) g 7 dX3_tread_49 rfl ?_
  refine e_aload_n (pc := 51) g 0 dX3_tread_51 rfl ?_
  refine e_getR (pc := 52) g 32 fl_X3_27 sh_37 rfl dX3_tread_52 ?_
  obtain ⟨r3, M1, f2, h⟩ := h
  refine e_callV (As := []) (S := [.int v8]) (pc := 55) g ok_X8_tried ml_X3_105 sh_32 ⟨_, rfl, rfl⟩ f2 (by omega) rfl (Nat.le_of_ble_eq_true rfl) dX3_tread_55 ?_
  refine e_to (S' := [.int r3, .int v8]) rfl rfl rfl ?_
  refine e_icmp_ge (pc := 58) g 155 dX3_tread_58 (by decide) (fun c4 => ?_) (fun c4 => ?_)
  · have h := h.1 c4
    refine e_lload (pc := 155) g 6 dX3_tread_155 rfl ?_
    exact e_lret (pc := 157) g gr rfl dX3_tread_157 h
  · have h := h.2 c4
    refine e_aload_n (pc := 61) g 0 dX3_tread_61 rfl ?_
    refine e_getR (pc := 62) g 38 fl_X3_11 sh_37 rfl dX3_tread_62 ?_
    refine e_iload_n (pc := 65) g 1 dX3_tread_65 rfl ?_
    refine e_iconst (pc := 66) g 1 dX3_tread_66 kc_1 ?_
    refine e_iadd (pc := 67) g dX3_tread_67 ?_
    refine e_iconst (pc := 68) g 3 dX3_tread_68 kc_3 ?_
    refine e_imul (pc := 69) g dX3_tread_69 ?_
    refine e_iload (pc := 70) g 7 dX3_tread_70 rfl ?_
    refine e_iadd (pc := 72) g dX3_tread_72 ?_
    obtain ⟨o5, h⟩ := h
    refine e_aald (pc := 73) g sh_38 o5 dX3_tread_73 ?_
    obtain ⟨o6, h⟩ := h
    refine e_astore (pc := 74) g [(0, .ref 37), (1, .int v1), (2, .int v2), (3, .int v3), (4, .int v4), (5, .int v5), (6, .long v6), (8, .int v8), (9, .ref (39 + (((v1 + 1) * 3) + v8).toNatClampNeg))] dX3_tread_74 (by decide) rfl ?_
    refine e_aload_n (pc := 76) g 0 dX3_tread_76 rfl ?_
    refine e_getR (pc := 77) g 38 fl_X3_11 sh_37 rfl dX3_tread_77 ?_
    refine e_iload_n (pc := 80) g 1 dX3_tread_80 rfl ?_
    refine e_iconst (pc := 81) g 3 dX3_tread_81 kc_3 ?_
    refine e_imul (pc := 82) g dX3_tread_82 ?_
    refine e_iload (pc := 83) g 7 dX3_tread_83 rfl ?_
    refine e_iadd (pc := 85) g dX3_tread_85 ?_
    obtain ⟨o7, h⟩ := h
    refine e_aald (pc := 86) g sh_38 o7 dX3_tread_86 ?_
    obtain ⟨o8, h⟩ := h
    refine e_iconst (pc := 87) g 0 dX3_tread_87 kc_0 ?_
    refine e_aload (pc := 88) g 8 dX3_tread_88 rfl ?_
    refine e_iconst (pc := 90) g 0 dX3_tread_90 kc_0 ?_
    refine e_aload_n (pc := 91) g 0 dX3_tread_91 rfl ?_
    refine e_getR (pc := 92) g 1 fl_X3_23 sh_37 rfl dX3_tread_92 ?_
    refine e_getR (pc := 95) g 2 fl_X3_110 sh_1 rfl dX3_tread_95 ?_
    refine e_getI (pc := 98) g fl_X3_119 sh_2 rfl dX3_tread_98 ?_
    obtain ⟨o9, h⟩ := h
    obtain ⟨o10, h⟩ := h
    obtain ⟨o11, h⟩ := h
    refine e_copy (pc := 101) g (by omega) mc_X3_122 ac_nat ac_stat ac_ini o8 o6 o9 o9 o10 o11 o11 (Nat.le_of_ble_eq_true rfl) dX3_tread_101 ?_
    obtain ⟨M12, qM12⟩ : ∃ y : MM, y = uc M1 (39 + (((v1 + 1) * 3) + v8).toNatClampNeg) (va_cpy (M1.1 (39 + ((v1 * 3) + v8).toNatClampNeg)) (M1.1 (39 + (((v1 + 1) * 3) + v8).toNatClampNeg)) (0 : Int32).toNatClampNeg (0 : Int32).toNatClampNeg (M1.1 2 7).toNatClampNeg) := ⟨_, rfl⟩
    have h := h M12 qM12
    refine e_to (M' := M12) rfl rfl (by rw [qM12]) ?_
    refine e_aload_n (pc := 104) g 0 dX3_tread_104 rfl ?_
    refine e_getR (pc := 105) g 1 fl_X3_23 sh_37 rfl dX3_tread_105 ?_
    refine e_aload (pc := 108) g 8 dX3_tread_108 rfl ?_
    refine e_aload_n (pc := 110) g 0 dX3_tread_110 rfl ?_
    refine e_getR (pc := 111) g 32 fl_X3_27 sh_37 rfl dX3_tread_111 ?_
    refine e_getR (pc := 114) g 33 fl_X3_134 sh_32 rfl dX3_tread_114 ?_
    refine e_iload (pc := 117) g 7 dX3_tread_117 rfl ?_
    obtain ⟨o13, h⟩ := h
    refine e_aald (pc := 119) g sh_33 o13 dX3_tread_119 ?_
    obtain ⟨o14, h⟩ := h
    refine e_iload_n (pc := 120) g 1 dX3_tread_120 rfl ?_
    obtain ⟨o15, h⟩ := h
    refine e_iald (pc := 121) g o14 o15 dX3_tread_121 ?_
    refine e_iload_n (pc := 122) g 3 dX3_tread_122 rfl ?_
    refine e_iload (pc := 123) g 5 dX3_tread_123 rfl ?_
    refine e_aload_n (pc := 125) g 0 dX3_tread_125 rfl ?_
    refine e_getR (pc := 126) g 60 fl_X3_19 sh_37 rfl dX3_tread_126 ?_
    obtain ⟨M16, f17, h⟩ := h
    refine e_callV (As := [.ref (39 + (((v1 + 1) * 3) + v8).toNatClampNeg), .int (M12.1 (34 + v8.toNatClampNeg) v1.toNatClampNeg), .int v3, .int v5, .ref 60]) (S := []) (pc := 129) g ok_X2_move ml_X3_137 sh_1 ⟨_, rfl, rfl⟩ f17 (by omega) rfl (Nat.le_of_ble_eq_true rfl) dX3_tread_129 ?_
    refine e_to (S' := []) rfl rfl rfl ?_
    refine e_lload (pc := 132) g 6 dX3_tread_132 rfl ?_
    refine e_aload_n (pc := 134) g 0 dX3_tread_134 rfl ?_
    refine e_getR (pc := 135) g 1 fl_X3_23 sh_37 rfl dX3_tread_135 ?_
    refine e_getR (pc := 138) g 2 fl_X3_110 sh_1 rfl dX3_tread_138 ?_
    refine e_aload (pc := 141) g 8 dX3_tread_141 rfl ?_
    obtain ⟨r20, M18, f19, h⟩ := h
    refine e_callV (As := [.ref (39 + (((v1 + 1) * 3) + v8).toNatClampNeg)]) (S := [.long v6]) (pc := 143) g ok_X0_allBreach ml_X3_141 sh_2 ⟨_, rfl, rfl⟩ f19 (by omega) rfl (Nat.le_of_ble_eq_true rfl) dX3_tread_143 ?_
    refine e_to (S' := [.long r20, .long v6]) rfl rfl rfl ?_
    refine e_ladd (pc := 146) g dX3_tread_146 ?_
    obtain ⟨x21, qx21⟩ : ∃ y : Int64, y = (v6 + r20) := ⟨_, rfl⟩
    have h := h x21 qx21
    refine e_to (S' := [.long x21]) rfl (by rw [qx21]) rfl ?_
    refine e_lstore (pc := 147) g [(0, .ref 37), (1, .int v1), (2, .int v2), (3, .int v3), (4, .int v4), (5, .int v5), (6, .long x21), (8, .int v8), (9, .ref (39 + (((v1 + 1) * 3) + v8).toNatClampNeg))] dX3_tread_147 (by decide) rfl ?_
    obtain ⟨x22, qx22⟩ : ∃ y : Int32, y = v8 + 1 := ⟨_, rfl⟩
    have h := h x22 qx22
    refine e_iinc (pc := 149) g 7 x22 [(0, .ref 37), (1, .int v1), (2, .int v2), (3, .int v3), (4, .int v4), (5, .int v5), (6, .long x21), (8, .int x22), (9, .ref (39 + (((v1 + 1) * 3) + v8).toNatClampNeg))] dX3_tread_149 rfl (by rw [qx22]; rfl) (by decide) rfl ?_
    refine e_goto (pc := 152) g 49 dX3_tread_152 (by decide) ?_
    refine e_sub [(0, .ref 37), (1, .int v1), (2, .int v2), (3, .int v3), (4, .int v4), (5, .int v5), (6, .long x21), (8, .int x22)] [0, 1, 2, 3, 4, 5, 6, 7] rfl ?_
    exact h

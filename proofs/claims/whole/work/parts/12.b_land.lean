/-- at the cut 54 of X2_advance -/
def At_X2_advance_54 (G : GC)  (v1 : Int32) (v2 : Int32)  (M : MM) : Prop := Ev G 54 [(0, .ref 1), (1, .int v1), (2, .int v2)] [] M
set_option maxHeartbeats 4000000 in
set_option maxRecDepth 100000 in
theorem b_X2_advance_0 {G : GC} {n : Nat} {r : Option Value} {M' : MM} (g : Good G mX2_advance n) (gr : GoodR G r M') (hn : 5 ≤ n) (a1 : Int32)   (M : MM) (h : (∃ (r3 : Int32) (M1 : MM), Fn 4 mX4_awake [.ref 15, .int (M.1 15 6), .int (M.1 1 7)] M (some (.int r3)) M1 ∧ (∀ M4 : MM, M4 = ui M1 15 6 r3 → (∃ M5 : MM, Fn 3 mX2_move [.ref 1, .ref 7, .int a1, .int (M4.1 1 7), .int (M4.1 15 6), .ref 26] M4 none M5 ∧ At_X2_advance_54 G a1 0 M5)))) : Ev G 0 [(0, .ref 1), (1, .int a1)] [] M := by
  refine e_aload_n (pc := 0) g 0 dX2_advance_0 rfl ?_
  refine e_getR (pc := 1) g 15 fl_X2_28 sh_1 rfl dX2_advance_1 ?_
  refine e_aload_n (pc := 4) g 0 dX2_advance_4 rfl ?_
  refine e_getR (pc := 5) g 15 fl_X2_28 sh_1 rfl dX2_advance_5 ?_
  refine e_aload_n (pc := 8) g 0 dX2_advance_8 rfl ?_
  refine e_getR (pc := 9) g 15 fl_X2_28 sh_1 rfl dX2_advance_9 ?_
  refine e_getI (pc := 12) g fl_X2_59 sh_15 rfl dX2_advance_12 ?_
  refine e_aload_n (pc := 15) g 0 dX2_advance_15 rfl ?_
  refine e_getI (pc := 16) g fl_X2_63 sh_1 rfl dX2_advance_16 ?_
  obtain ⟨r3, M1, f2, h⟩ := h
  refine e_callV (As := [.int (M.1 15 6), .int (M.1 1 7)]) (S := [.ref 15]) (pc := 19) g ok_X4_awake ml_X2_66 sh_15 ⟨_, rfl, rfl⟩ f2 (by omega) rfl (Nat.le_of_ble_eq_true rfl) dX2_advance_19 ?_
  refine e_to (S' := [.int r3, .ref 15]) rfl rfl rfl ?_
  refine e_putI (pc := 22) g fw_X2_59 sh_15 rfl dX2_advance_22 ?_
  obtain ⟨M4, qM4⟩ : ∃ y : MM, y = ui M1 15 6 r3 := ⟨_, rfl⟩
  have h := h M4 qM4
  refine e_to (M' := M4) rfl rfl (by rw [qM4]) ?_
  refine e_aload_n (pc := 25) g 0 dX2_advance_25 rfl ?_
  refine e_aload_n (pc := 26) g 0 dX2_advance_26 rfl ?_
  refine e_getR (pc := 27) g 2 fl_X2_12 sh_1 rfl dX2_advance_27 ?_
  refine e_getR (pc := 30) g 7 fl_X2_70 sh_2 rfl dX2_advance_30 ?_
  refine e_iload_n (pc := 33) g 1 dX2_advance_33 rfl ?_
  refine e_aload_n (pc := 34) g 0 dX2_advance_34 rfl ?_
  refine e_getI (pc := 35) g fl_X2_63 sh_1 rfl dX2_advance_35 ?_
  refine e_aload_n (pc := 38) g 0 dX2_advance_38 rfl ?_
  refine e_getR (pc := 39) g 15 fl_X2_28 sh_1 rfl dX2_advance_39 ?_
  refine e_getI (pc := 42) g fl_X2_59 sh_15 rfl dX2_advance_42 ?_
  refine e_aload_n (pc := 45) g 0 dX2_advance_45 rfl ?_
  refine e_getR (pc := 46) g 26 fl_X2_42 sh_1 rfl dX2_advance_46 ?_
  obtain ⟨M5, f6, h⟩ := h
  refine e_callV (As := [.ref 7, .int a1, .int (M4.1 1 7), .int (M4.1 15 6), .ref 26]) (S := []) (pc := 49) g ok_X2_move ml_X2_73 sh_1 ⟨_, rfl, rfl⟩ f6 (by omega) rfl (Nat.le_of_ble_eq_true rfl) dX2_advance_49 ?_
  refine e_to (S' := []) rfl rfl rfl ?_
  refine e_iconst (pc := 52) g 0 dX2_advance_52 kc_0 ?_
  refine e_istore_n (pc := 53) g [(0, .ref 1), (1, .int a1), (2, .int 0)] dX2_advance_53 (by decide) rfl ?_
  exact h
set_option maxHeartbeats 4000000 in
set_option maxRecDepth 100000 in
theorem b_X2_advance_54 {G : GC} {n : Nat} {r : Option Value} {M' : MM} (g : Good G mX2_advance n) (gr : GoodR G r M') (hn : 5 ≤ n)  (v1 : Int32) (v2 : Int32)  (M : MM) (h : ((((M.1 2 7) : Int32) ≤ v2 → (∃ M2 : MM, Fn 1 mX2_drain [.ref 1] M none M2 ∧ (∃ (r6 : Int32) (M4 : MM), Fn 3 mX2_cost [.ref 1, .int (M2.1 15 6), .int (M2.1 1 7)] M2 (some (.int r6)) M4 ∧ (∀ M7 : MM, M7 = ui M4 1 8 ((M2.1 1 8) + r6) → (∀ M8 : MM, M8 = ui M7 1 7 ((M7.1 1 7) + 1) → (∃ (r11 : Int32) (M9 : MM), Fn 3 mX0_alarms [.ref 2] M8 (some (.int r11)) M9 ∧ (r = some (.int r11) ∧ M' = M9))))))) ∧ (¬ (((M.1 2 7) : Int32) ≤ v2) → (vp_in v2 6) ∧ (∀ M13 : MM, M13 = ui M 8 v2.toNatClampNeg ((M.1 8 v2.toNatClampNeg) + (v1 * (M.1 3 v2.toNatClampNeg))) → (∀ x14 : Int32, x14 = v2 + 1 → At_X2_advance_54 G v1 x14 M13))))) : At_X2_advance_54 G v1 v2 M := by
  unfold At_X2_advance_54
  refine e_iload_n (pc := 54) g 2 dX2_advance_54 rfl ?_
  refine e_aload_n (pc := 55) g 0 dX2_advance_55 rfl ?_
  refine e_getR (pc := 56) g 2 fl_X2_12 sh_1 rfl dX2_advance_56 ?_
  refine e_getI (pc := 59) g fl_X2_77 sh_2 rfl dX2_advance_59 ?_
  refine e_icmp_ge (pc := 62) g 94 dX2_advance_62 (by decide) (fun c1 => ?_) (fun c1 => ?_)
  · have h := h.1 c1
    refine e_aload_n (pc := 94) g 0 dX2_advance_94 rfl ?_
    obtain ⟨M2, f3, h⟩ := h
    refine e_callV (As := []) (S := []) (pc := 95) g ok_X2_drain ml_X2_86 sh_1 ⟨_, rfl, rfl⟩ f3 (by omega) rfl (Nat.le_of_ble_eq_true rfl) dX2_advance_95 ?_
    refine e_to (S' := []) rfl rfl rfl ?_
    refine e_aload_n (pc := 98) g 0 dX2_advance_98 rfl ?_
    refine e_dup (pc := 99) g dX2_advance_99 rfl ?_
    refine e_getI (pc := 100) g fl_X2_89 sh_1 rfl dX2_advance_100 ?_
    refine e_aload_n (pc := 103) g 0 dX2_advance_103 rfl ?_
    refine e_aload_n (pc := 104) g 0 dX2_advance_104 rfl ?_
    refine e_getR (pc := 105) g 15 fl_X2_28 sh_1 rfl dX2_advance_105 ?_
    refine e_getI (pc := 108) g fl_X2_59 sh_15 rfl dX2_advance_108 ?_
    refine e_aload_n (pc := 111) g 0 dX2_advance_111 rfl ?_
    refine e_getI (pc := 112) g fl_X2_63 sh_1 rfl dX2_advance_112 ?_
    obtain ⟨r6, M4, f5, h⟩ := h
    refine e_callV (As := [.int (M2.1 15 6), .int (M2.1 1 7)]) (S := [.int (M2.1 1 8), .ref 1]) (pc := 115) g ok_X2_cost ml_X2_92 sh_1 ⟨_, rfl, rfl⟩ f5 (by omega) rfl (Nat.le_of_ble_eq_true rfl) dX2_advance_115 ?_
    refine e_to (S' := [.int r6, .int (M2.1 1 8), .ref 1]) rfl rfl rfl ?_
    refine e_iadd (pc := 118) g dX2_advance_118 ?_
    refine e_putI (pc := 119) g fw_X2_89 sh_1 rfl dX2_advance_119 ?_
    obtain ⟨M7, qM7⟩ : ∃ y : MM, y = ui M4 1 8 ((M2.1 1 8) + r6) := ⟨_, rfl⟩
    have h := h M7 qM7
    refine e_to (M' := M7) rfl rfl (by rw [qM7]) ?_
    refine e_aload_n (pc := 122) g 0 dX2_advance_122 rfl ?_
    refine e_dup (pc := 123) g dX2_advance_123 rfl ?_
    refine e_getI (pc := 124) g fl_X2_63 sh_1 rfl dX2_advance_124 ?_
    refine e_iconst (pc := 127) g 1 dX2_advance_127 kc_1 ?_
    refine e_iadd (pc := 128) g dX2_advance_128 ?_
    refine e_putI (pc := 129) g fw_X2_63 sh_1 rfl dX2_advance_129 ?_
    obtain ⟨M8, qM8⟩ : ∃ y : MM, y = ui M7 1 7 ((M7.1 1 7) + 1) := ⟨_, rfl⟩
    have h := h M8 qM8
    refine e_to (M' := M8) rfl rfl (by rw [qM8]) ?_
    refine e_aload_n (pc := 132) g 0 dX2_advance_132 rfl ?_
    refine e_getR (pc := 133) g 2 fl_X2_12 sh_1 rfl dX2_advance_133 ?_
    obtain ⟨r11, M9, f10, h⟩ := h
    refine e_callV (As := []) (S := []) (pc := 136) g ok_X0_alarms ml_X2_95 sh_2 ⟨_, rfl, rfl⟩ f10 (by omega) rfl (Nat.le_of_ble_eq_true rfl) dX2_advance_136 ?_
    refine e_to (S' := [.int r11]) rfl rfl rfl ?_
    exact e_iret (pc := 139) g gr rfl dX2_advance_139 h
  · have h := h.2 c1
    refine e_aload_n (pc := 65) g 0 dX2_advance_65 rfl ?_
    refine e_getR (pc := 66) g 2 fl_X2_12 sh_1 rfl dX2_advance_66 ?_
    refine e_getR (pc := 69) g 8 fl_X2_80 sh_2 rfl dX2_advance_69 ?_
    refine e_iload_n (pc := 72) g 2 dX2_advance_72 rfl ?_
    refine e_dup2 (pc := 73) g dX2_advance_73 rfl rfl ?_
    obtain ⟨o12, h⟩ := h
    refine e_iald (pc := 74) g sh_8 o12 dX2_advance_74 ?_
    refine e_iload_n (pc := 75) g 1 dX2_advance_75 rfl ?_
    refine e_aload_n (pc := 76) g 0 dX2_advance_76 rfl ?_
    refine e_getR (pc := 77) g 2 fl_X2_12 sh_1 rfl dX2_advance_77 ?_
    refine e_getR (pc := 80) g 3 fl_X2_83 sh_2 rfl dX2_advance_80 ?_
    refine e_iload_n (pc := 83) g 2 dX2_advance_83 rfl ?_
    refine e_iald (pc := 84) g sh_3 o12 dX2_advance_84 ?_
    refine e_imul (pc := 85) g dX2_advance_85 ?_
    refine e_iadd (pc := 86) g dX2_advance_86 ?_
    refine e_iast (pc := 87) g sh_8 o12 dX2_advance_87 ?_
    obtain ⟨M13, qM13⟩ : ∃ y : MM, y = ui M 8 v2.toNatClampNeg ((M.1 8 v2.toNatClampNeg) + (v1 * (M.1 3 v2.toNatClampNeg))) := ⟨_, rfl⟩
    have h := h M13 qM13
    refine e_to (M' := M13) rfl rfl (by rw [qM13]) ?_
    obtain ⟨x14, qx14⟩ : ∃ y : Int32, y = v2 + 1 := ⟨_, rfl⟩
    have h := h x14 qx14
    refine e_iinc (pc := 88) g 2 x14 [(0, .ref 1), (1, .int v1), (2, .int x14)] dX2_advance_88 rfl (by rw [qx14]; rfl) (by decide) rfl ?_
    refine e_goto (pc := 91) g 54 dX2_advance_91 (by decide) ?_
    exact h
/-- at the cut 2 of X2_drain -/
def At_X2_drain_2 (G : GC)  (v1 : Int32)  (M : MM) : Prop := Ev G 2 [(0, .ref 1), (1, .int v1)] [] M
set_option maxHeartbeats 4000000 in
set_option maxRecDepth 100000 in
theorem b_X2_drain_0 {G : GC} {n : Nat} {r : Option Value} {M' : MM} (g : Good G mX2_drain n) (gr : GoodR G r M') (hn : 1 ≤ n)    (M : MM) (h : At_X2_drain_2 G 0 M) : Ev G 0 [(0, .ref 1)] [] M := by
  refine e_iconst (pc := 0) g 0 dX2_drain_0 kc_0 ?_
  refine e_istore_n (pc := 1) g [(0, .ref 1), (1, .int 0)] dX2_drain_1 (by decide) rfl ?_
  exact h
/-- at the cut 64 of X2_drain -/
def At_X2_drain_64 (G : GC)  (v1 : Int32)  (M : MM) : Prop := Ev G 64 [(0, .ref 1), (1, .int v1)] [] M
set_option maxHeartbeats 4000000 in
set_option maxRecDepth 100000 in
theorem b_X2_drain_2 {G : GC} {n : Nat} {r : Option Value} {M' : MM} (g : Good G mX2_drain n) (gr : GoodR G r M') (hn : 1 ≤ n)  (v1 : Int32)  (M : MM) (h : ((((M.1 15 7) : Int32) ≤ v1 → At_X2_drain_64 G 0 M) ∧ (¬ (((M.1 15 7) : Int32) ≤ v1) → (vp_in v1 4) ∧ ((¬ (M.1 17 v1.toNatClampNeg) = ((-4) : Int32) → (∀ x4 : Int32, x4 = v1 + 1 → At_X2_drain_2 G x4 M)) ∧ ((M.1 17 v1.toNatClampNeg) = ((-4) : Int32) → (vp_in (M.1 16 v1.toNatClampNeg) 6) ∧ (∀ M6 : MM, M6 = ui M 9 (M.1 16 v1.toNatClampNeg).toNatClampNeg ((M.1 9 (M.1 16 v1.toNatClampNeg).toNatClampNeg) + (M.1 28 v1.toNatClampNeg)) → (∀ x7 : Int32, x7 = v1 + 1 → At_X2_drain_2 G x7 M6))))))) : At_X2_drain_2 G v1 M := by
  unfold At_X2_drain_2
  refine e_iload_n (pc := 2) g 1 dX2_drain_2 rfl ?_
  refine e_aload_n (pc := 3) g 0 dX2_drain_3 rfl ?_
  refine e_getR (pc := 4) g 15 fl_X2_28 sh_1 rfl dX2_drain_4 ?_
  refine e_getI (pc := 7) g fl_X2_99 sh_15 rfl dX2_drain_7 ?_
  refine e_icmp_ge (pc := 10) g 62 dX2_drain_10 (by decide) (fun c1 => ?_) (fun c1 => ?_)
  · have h := h.1 c1
    refine e_iconst (pc := 62) g 0 dX2_drain_62 kc_0 ?_
    refine e_istore_n (pc := 63) g [(0, .ref 1), (1, .int 0)] dX2_drain_63 (by decide) rfl ?_
    exact h
  · have h := h.2 c1
    refine e_aload_n (pc := 13) g 0 dX2_drain_13 rfl ?_
    refine e_getR (pc := 14) g 15 fl_X2_28 sh_1 rfl dX2_drain_14 ?_
    refine e_getR (pc := 17) g 17 fl_X2_100 sh_15 rfl dX2_drain_17 ?_
    refine e_iload_n (pc := 20) g 1 dX2_drain_20 rfl ?_
    obtain ⟨o2, h⟩ := h
    refine e_iald (pc := 21) g sh_17 o2 dX2_drain_21 ?_
    refine e_bipush (pc := 22) g (-4) dX2_drain_22 kb_m4 ?_
    refine e_icmp_ne (pc := 24) g 56 dX2_drain_24 (by decide) (fun c3 => ?_) (fun c3 => ?_)
    · have h := h.1 c3
      obtain ⟨x4, qx4⟩ : ∃ y : Int32, y = v1 + 1 := ⟨_, rfl⟩
      have h := h x4 qx4
      refine e_iinc (pc := 56) g 1 x4 [(0, .ref 1), (1, .int x4)] dX2_drain_56 rfl (by rw [qx4]; rfl) (by decide) rfl ?_
      refine e_goto (pc := 59) g 2 dX2_drain_59 (by decide) ?_
      exact h
    · have h := h.2 c3
      refine e_aload_n (pc := 27) g 0 dX2_drain_27 rfl ?_
      refine e_getR (pc := 28) g 2 fl_X2_12 sh_1 rfl dX2_drain_28 ?_
      refine e_getR (pc := 31) g 9 fl_X2_103 sh_2 rfl dX2_drain_31 ?_
      refine e_aload_n (pc := 34) g 0 dX2_drain_34 rfl ?_
      refine e_getR (pc := 35) g 15 fl_X2_28 sh_1 rfl dX2_drain_35 ?_
      refine e_getR (pc := 38) g 16 fl_X2_106 sh_15 rfl dX2_drain_38 ?_
      refine e_iload_n (pc := 41) g 1 dX2_drain_41 rfl ?_
      refine e_iald (pc := 42) g sh_16 o2 dX2_drain_42 ?_
      refine e_dup2 (pc := 43) g dX2_drain_43 rfl rfl ?_
      obtain ⟨o5, h⟩ := h
      refine e_iald (pc := 44) g sh_9 o5 dX2_drain_44 ?_
      refine e_aload_n (pc := 45) g 0 dX2_drain_45 rfl ?_
      refine e_getR (pc := 46) g 26 fl_X2_42 sh_1 rfl dX2_drain_46 ?_
      refine e_getR (pc := 49) g 28 fl_X2_109 sh_26 rfl dX2_drain_49 ?_
      refine e_iload_n (pc := 52) g 1 dX2_drain_52 rfl ?_
      refine e_iald (pc := 53) g sh_28 o2 dX2_drain_53 ?_
      refine e_iadd (pc := 54) g dX2_drain_54 ?_
      refine e_iast (pc := 55) g sh_9 o5 dX2_drain_55 ?_
      obtain ⟨M6, qM6⟩ : ∃ y : MM, y = ui M 9 (M.1 16 v1.toNatClampNeg).toNatClampNeg ((M.1 9 (M.1 16 v1.toNatClampNeg).toNatClampNeg) + (M.1 28 v1.toNatClampNeg)) := ⟨_, rfl⟩
      have h := h M6 qM6
      refine e_to (M' := M6) rfl rfl (by rw [qM6]) ?_
      obtain ⟨x7, qx7⟩ : ∃ y : Int32, y = v1 + 1 := ⟨_, rfl⟩
      have h := h x7 qx7
      refine e_iinc (pc := 56) g 1 x7 [(0, .ref 1), (1, .int x7)] dX2_drain_56 rfl (by rw [qx7]; rfl) (by decide) rfl ?_
      refine e_goto (pc := 59) g 2 dX2_drain_59 (by decide) ?_
      exact h
set_option maxHeartbeats 4000000 in
set_option maxRecDepth 100000 in
theorem b_X2_drain_64 {G : GC} {n : Nat} {r : Option Value} {M' : MM} (g : Good G mX2_drain n) (gr : GoodR G r M') (hn : 1 ≤ n)  (v1 : Int32)  (M : MM) (h : ((((M.1 22 3) : Int32) ≤ v1 → (r = none ∧ M' = M)) ∧ (¬ (((M.1 22 3) : Int32) ≤ v1) → (vp_in v1 4) ∧ (vp_in (M.1 23 v1.toNatClampNeg) 6) ∧ (∀ M4 : MM, M4 = ui M 9 (M.1 23 v1.toNatClampNeg).toNatClampNeg ((M.1 9 (M.1 23 v1.toNatClampNeg).toNatClampNeg) + (M.1 29 v1.toNatClampNeg)) → (∀ x5 : Int32, x5 = v1 + 1 → At_X2_drain_64 G x5 M4))))) : At_X2_drain_64 G v1 M := by
  unfold At_X2_drain_64
  refine e_iload_n (pc := 64) g 1 dX2_drain_64 rfl ?_
  refine e_aload_n (pc := 65) g 0 dX2_drain_65 rfl ?_
  refine e_getR (pc := 66) g 22 fl_X2_35 sh_1 rfl dX2_drain_66 ?_
  refine e_getI (pc := 69) g fl_X2_111 sh_22 rfl dX2_drain_69 ?_
  refine e_icmp_ge (pc := 72) g 110 dX2_drain_72 (by decide) (fun c1 => ?_) (fun c1 => ?_)
  · have h := h.1 c1
    exact e_vret (pc := 110) g gr rfl dX2_drain_110 h
  · have h := h.2 c1
    refine e_aload_n (pc := 75) g 0 dX2_drain_75 rfl ?_
    refine e_getR (pc := 76) g 2 fl_X2_12 sh_1 rfl dX2_drain_76 ?_
    refine e_getR (pc := 79) g 9 fl_X2_103 sh_2 rfl dX2_drain_79 ?_
    refine e_aload_n (pc := 82) g 0 dX2_drain_82 rfl ?_
    refine e_getR (pc := 83) g 22 fl_X2_35 sh_1 rfl dX2_drain_83 ?_
    refine e_getR (pc := 86) g 23 fl_X2_112 sh_22 rfl dX2_drain_86 ?_
    refine e_iload_n (pc := 89) g 1 dX2_drain_89 rfl ?_
    obtain ⟨o2, h⟩ := h
    refine e_iald (pc := 90) g sh_23 o2 dX2_drain_90 ?_
    refine e_dup2 (pc := 91) g dX2_drain_91 rfl rfl ?_
    obtain ⟨o3, h⟩ := h
    refine e_iald (pc := 92) g sh_9 o3 dX2_drain_92 ?_
    refine e_aload_n (pc := 93) g 0 dX2_drain_93 rfl ?_
    refine e_getR (pc := 94) g 26 fl_X2_42 sh_1 rfl dX2_drain_94 ?_
    refine e_getR (pc := 97) g 29 fl_X2_113 sh_26 rfl dX2_drain_97 ?_
    refine e_iload_n (pc := 100) g 1 dX2_drain_100 rfl ?_
    refine e_iald (pc := 101) g sh_29 o2 dX2_drain_101 ?_
    refine e_iadd (pc := 102) g dX2_drain_102 ?_
    refine e_iast (pc := 103) g sh_9 o3 dX2_drain_103 ?_
    obtain ⟨M4, qM4⟩ : ∃ y : MM, y = ui M 9 (M.1 23 v1.toNatClampNeg).toNatClampNeg ((M.1 9 (M.1 23 v1.toNatClampNeg).toNatClampNeg) + (M.1 29 v1.toNatClampNeg)) := ⟨_, rfl⟩
    have h := h M4 qM4
    refine e_to (M' := M4) rfl rfl (by rw [qM4]) ?_
    obtain ⟨x5, qx5⟩ : ∃ y : Int32, y = v1 + 1 := ⟨_, rfl⟩
    have h := h x5 qx5
    refine e_iinc (pc := 104) g 1 x5 [(0, .ref 1), (1, .int x5)] dX2_drain_104 rfl (by rw [qx5]; rfl) (by decide) rfl ?_
    refine e_goto (pc := 107) g 64 dX2_drain_107 (by decide) ?_
    exact h
set_option maxHeartbeats 4000000 in
set_option maxRecDepth 100000 in
theorem b_X2_cost_0 {G : GC} {n : Nat} {r : Option Value} {M' : MM} (g : Good G mX2_cost n) (gr : GoodR G r M') (hn : 3 ≤ n) (a1 : Int32) (a2 : Int32)   (M : MM) (h : (∃ (r3 : Int32) (M1 : MM), Fn 2 mX9_hourOfDay [.int a2] M (some (.int r3)) M1 ∧ (vp_in r3 24) ∧ (∃ (r7 : Int32) (M5 : MM), Fn 1 mJ6_bitCount_0f7a4 [.int a1] M1 (some (.int r7)) M5 ∧ (r = some (.int ((M1.1 31 r3.toNatClampNeg) * r7)) ∧ M' = M5)))) : Ev G 0 [(0, .ref 1), (1, .int a1), (2, .int a2)] [] M := by
  refine e_aload_n (pc := 0) g 0 dX2_cost_0 rfl ?_
  refine e_getR (pc := 1) g 31 fl_X2_50 sh_1 rfl dX2_cost_1 ?_
  refine e_iload_n (pc := 4) g 2 dX2_cost_4 rfl ?_
  obtain ⟨r3, M1, f2, h⟩ := h
  refine e_callS (As := [.int a2]) (S := [.ref 31]) (pc := 5) g ok_X9_hourOfDay ml_X2_115 f2 (by omega) rfl (Nat.le_of_ble_eq_true rfl) dX2_cost_5 ?_
  refine e_to (S' := [.int r3, .ref 31]) rfl rfl rfl ?_
  obtain ⟨o4, h⟩ := h
  refine e_iald (pc := 8) g sh_31 o4 dX2_cost_8 ?_
  refine e_iload_n (pc := 9) g 1 dX2_cost_9 rfl ?_
  obtain ⟨r7, M5, f6, h⟩ := h
  refine e_callS (As := [.int a1]) (S := [.int (M1.1 31 r3.toNatClampNeg)]) (pc := 10) g ok_J6_bitCount_0f7a4 ml_X2_119 f6 (by omega) rfl (Nat.le_of_ble_eq_true rfl) dX2_cost_10 ?_
  refine e_to (S' := [.int r7, .int (M1.1 31 r3.toNatClampNeg)]) rfl rfl rfl ?_
  refine e_imul (pc := 13) g dX2_cost_13 ?_
  exact e_iret (pc := 14) g gr rfl dX2_cost_14 h
/-- at the cut 3 of X2_move -/
def At_X2_move_3 (G : GC) (w : Nat) (fl fa fb fc : Nat) (v2 : Int32) (v3 : Int32) (v4 : Int32) (v6 : Int32)  (M : MM) : Prop := Ev G 3 [(0, .ref 1), (1, .ref w), (2, .int v2), (3, .int v3), (4, .int v4), (5, .ref fl), (6, .int v6)] [] M
set_option maxHeartbeats 4000000 in
set_option maxRecDepth 100000 in
theorem b_X2_move_0 {G : GC} {n : Nat} {r : Option Value} {M' : MM} (g : Good G mX2_move n) (gr : GoodR G r M') (hn : 3 ≤ n) (w : Nat) (a2 : Int32) (a3 : Int32) (a4 : Int32) (fl fa fb fc : Nat)  (hw : shp w = (1, 0, 6, [])) (hfl : shp fl = (0, 1, 0, [fa + 2, fb + 2, fc + 2])) (hfa : shp fa = (1, 0, 8, [])) (hfb : shp fb = (1, 0, 4, [])) (hfc : shp fc = (1, 0, 4, [])) (M : MM) (h : At_X2_move_3 G w fl fa fb fc a2 a3 a4 0 M) : Ev G 0 [(0, .ref 1), (1, .ref w), (2, .int a2), (3, .int a3), (4, .int a4), (5, .ref fl)] [] M := by
  refine e_iconst (pc := 0) g 0 dX2_move_0 kc_0 ?_
  refine e_istore (pc := 1) g [(0, .ref 1), (1, .ref w), (2, .int a2), (3, .int a3), (4, .int a4), (5, .ref fl), (6, .int 0)] dX2_move_1 (by decide) rfl ?_
  exact h
/-- at the cut 43 of X2_move -/
def At_X2_move_43 (G : GC) (w : Nat) (fl fa fb fc : Nat) (v2 : Int32) (v3 : Int32) (v4 : Int32) (v6 : Int32)  (M : MM) : Prop := Ev G 43 [(0, .ref 1), (1, .ref w), (2, .int v2), (3, .int v3), (4, .int v4), (5, .ref fl), (6, .int v6)] [] M
set_option maxHeartbeats 4000000 in
set_option maxRecDepth 100000 in
theorem b_X2_move_3 {G : GC} {n : Nat} {r : Option Value} {M' : MM} (g : Good G mX2_move n) (gr : GoodR G r M') (hn : 3 ≤ n) (w : Nat) (fl fa fb fc : Nat) (v2 : Int32) (v3 : Int32) (v4 : Int32) (v6 : Int32) (hw : shp w = (1, 0, 6, [])) (hfl : shp fl = (0, 1, 0, [fa + 2, fb + 2, fc + 2])) (hfa : shp fa = (1, 0, 8, [])) (hfb : shp fb = (1, 0, 4, [])) (hfc : shp fc = (1, 0, 4, [])) (M : MM) (h : ((((M.1 2 7) : Int32) ≤ v6 → At_X2_move_43 G w fl fa fb fc v2 v3 v4 0 M) ∧ (¬ (((M.1 2 7) : Int32) ≤ v6) → (vp_in v6 6) ∧ (∀ M3 : MM, M3 = ui M w v6.toNatClampNeg ((M.1 w v6.toNatClampNeg) + (v2 * (M.1 3 v6.toNatClampNeg))) → (∀ x4 : Int32, x4 = v6 + 1 → At_X2_move_3 G w fl fa fb fc v2 v3 v4 x4 M3))))) : At_X2_move_3 G w fl fa fb fc v2 v3 v4 v6 M := by
  unfold At_X2_move_3
  refine e_iload (pc := 3) g 6 dX2_move_3 rfl ?_
  refine e_aload_n (pc := 5) g 0 dX2_move_5 rfl ?_
  refine e_getR (pc := 6) g 2 fl_X2_12 sh_1 rfl dX2_move_6 ?_
  refine e_getI (pc := 9) g fl_X2_77 sh_2 rfl dX2_move_9 ?_
  refine e_icmp_ge (pc := 12) g 40 dX2_move_12 (by decide) (fun c1 => ?_) (fun c1 => ?_)
  · have h := h.1 c1
    refine e_iconst (pc := 40) g 0 dX2_move_40 kc_0 ?_
    refine e_istore (pc := 41) g [(0, .ref 1), (1, .ref w), (2, .int v2), (3, .int v3), (4, .int v4), (5, .ref fl), (6, .int 0)] dX2_move_41 (by decide) rfl ?_
    exact h
  · have h := h.2 c1
    refine e_aload_n (pc := 15) g 1 dX2_move_15 rfl ?_
    refine e_iload (pc := 16) g 6 dX2_move_16 rfl ?_
    refine e_dup2 (pc := 18) g dX2_move_18 rfl rfl ?_
    obtain ⟨o2, h⟩ := h
    refine e_iald (pc := 19) g hw o2 dX2_move_19 ?_
    refine e_iload_n (pc := 20) g 2 dX2_move_20 rfl ?_
    refine e_aload_n (pc := 21) g 0 dX2_move_21 rfl ?_
    refine e_getR (pc := 22) g 2 fl_X2_12 sh_1 rfl dX2_move_22 ?_
    refine e_getR (pc := 25) g 3 fl_X2_83 sh_2 rfl dX2_move_25 ?_
    refine e_iload (pc := 28) g 6 dX2_move_28 rfl ?_
    refine e_iald (pc := 30) g sh_3 o2 dX2_move_30 ?_
    refine e_imul (pc := 31) g dX2_move_31 ?_
    refine e_iadd (pc := 32) g dX2_move_32 ?_
    refine e_iast (pc := 33) g hw o2 dX2_move_33 ?_
    obtain ⟨M3, qM3⟩ : ∃ y : MM, y = ui M w v6.toNatClampNeg ((M.1 w v6.toNatClampNeg) + (v2 * (M.1 3 v6.toNatClampNeg))) := ⟨_, rfl⟩
    have h := h M3 qM3
    refine e_to (M' := M3) rfl rfl (by rw [qM3]) ?_
    obtain ⟨x4, qx4⟩ : ∃ y : Int32, y = v6 + 1 := ⟨_, rfl⟩
    have h := h x4 qx4
    refine e_iinc (pc := 34) g 6 x4 [(0, .ref 1), (1, .ref w), (2, .int v2), (3, .int v3), (4, .int v4), (5, .ref fl), (6, .int x4)] dX2_move_34 rfl (by rw [qx4]; rfl) (by decide) rfl ?_
    refine e_goto (pc := 37) g 3 dX2_move_37 (by decide) ?_
    exact h
/-- at the cut 79 of X2_move -/
def At_X2_move_79 (G : GC) (w : Nat) (fl fa fb fc : Nat) (v2 : Int32) (v3 : Int32) (v4 : Int32) (v6 : Int32)  (M : MM) : Prop := Ev G 79 [(0, .ref 1), (1, .ref w), (2, .int v2), (3, .int v3), (4, .int v4), (5, .ref fl), (6, .int v6)] [] M
set_option maxHeartbeats 4000000 in
set_option maxRecDepth 100000 in
theorem b_X2_move_43 {G : GC} {n : Nat} {r : Option Value} {M' : MM} (g : Good G mX2_move n) (gr : GoodR G r M') (hn : 3 ≤ n) (w : Nat) (fl fa fb fc : Nat) (v2 : Int32) (v3 : Int32) (v4 : Int32) (v6 : Int32) (hw : shp w = (1, 0, 6, [])) (hfl : shp fl = (0, 1, 0, [fa + 2, fb + 2, fc + 2])) (hfa : shp fa = (1, 0, 8, [])) (hfb : shp fb = (1, 0, 4, [])) (hfc : shp fc = (1, 0, 4, [])) (M : MM) (h : ((((M.1 10 4) : Int32) ≤ v6 → At_X2_move_79 G w fl fa fb fc v2 v3 v4 0 M) ∧ (¬ (((M.1 10 4) : Int32) ≤ v6) → (∃ (r4 : Int32) (M2 : MM), Fn 2 mX2_passWeir [.ref 1, .int v6, .ref w] M (some (.int r4)) M2 ∧ (vp_in v6 8) ∧ (∀ M6 : MM, M6 = ui M2 fa v6.toNatClampNeg r4 → (∀ x7 : Int32, x7 = v6 + 1 → At_X2_move_43 G w fl fa fb fc v2 v3 v4 x7 M6)))))) : At_X2_move_43 G w fl fa fb fc v2 v3 v4 v6 M := by
  unfold At_X2_move_43
  refine e_iload (pc := 43) g 6 dX2_move_43 rfl ?_
  refine e_aload_n (pc := 45) g 0 dX2_move_45 rfl ?_
  refine e_getR (pc := 46) g 10 fl_X2_21 sh_1 rfl dX2_move_46 ?_
  refine e_getI (pc := 49) g fl_X2_124 sh_10 rfl dX2_move_49 ?_
  refine e_icmp_ge (pc := 52) g 76 dX2_move_52 (by decide) (fun c1 => ?_) (fun c1 => ?_)
  · have h := h.1 c1
    refine e_iconst (pc := 76) g 0 dX2_move_76 kc_0 ?_
    refine e_istore (pc := 77) g [(0, .ref 1), (1, .ref w), (2, .int v2), (3, .int v3), (4, .int v4), (5, .ref fl), (6, .int 0)] dX2_move_77 (by decide) rfl ?_
    exact h
  · have h := h.2 c1
    refine e_aload (pc := 55) g 5 dX2_move_55 rfl ?_
    refine e_getR (pc := 57) g fa fl_X2_125 hfl rfl dX2_move_57 ?_
    refine e_iload (pc := 60) g 6 dX2_move_60 rfl ?_
    refine e_aload_n (pc := 62) g 0 dX2_move_62 rfl ?_
    refine e_iload (pc := 63) g 6 dX2_move_63 rfl ?_
    refine e_aload_n (pc := 65) g 1 dX2_move_65 rfl ?_
    obtain ⟨r4, M2, f3, h⟩ := h
    refine e_callV (As := [.int v6, .ref w]) (S := [.int v6, .ref fa]) (pc := 66) g ok_X2_passWeir ml_X2_127 sh_1 ⟨_, rfl, rfl⟩ f3 (by omega) rfl (Nat.le_of_ble_eq_true rfl) dX2_move_66 ?_
    refine e_to (S' := [.int r4, .int v6, .ref fa]) rfl rfl rfl ?_
    obtain ⟨o5, h⟩ := h
    refine e_iast (pc := 69) g hfa o5 dX2_move_69 ?_
    obtain ⟨M6, qM6⟩ : ∃ y : MM, y = ui M2 fa v6.toNatClampNeg r4 := ⟨_, rfl⟩
    have h := h M6 qM6
    refine e_to (M' := M6) rfl rfl (by rw [qM6]) ?_
    obtain ⟨x7, qx7⟩ : ∃ y : Int32, y = v6 + 1 := ⟨_, rfl⟩
    have h := h x7 qx7
    refine e_iinc (pc := 70) g 6 x7 [(0, .ref 1), (1, .ref w), (2, .int v2), (3, .int v3), (4, .int v4), (5, .ref fl), (6, .int x7)] dX2_move_70 rfl (by rw [qx7]; rfl) (by decide) rfl ?_
    refine e_goto (pc := 73) g 43 dX2_move_73 (by decide) ?_
    exact h
/-- at the cut 129 of X2_move -/
def At_X2_move_129 (G : GC) (w : Nat) (fl fa fb fc : Nat) (v2 : Int32) (v3 : Int32) (v4 : Int32) (v6 : Int32)  (M : MM) : Prop := Ev G 129 [(0, .ref 1), (1, .ref w), (2, .int v2), (3, .int v3), (4, .int v4), (5, .ref fl), (6, .int v6)] [] M
set_option maxHeartbeats 4000000 in
set_option maxRecDepth 100000 in
theorem b_X2_move_79 {G : GC} {n : Nat} {r : Option Value} {M' : MM} (g : Good G mX2_move n) (gr : GoodR G r M') (hn : 3 ≤ n) (w : Nat) (fl fa fb fc : Nat) (v2 : Int32) (v3 : Int32) (v4 : Int32) (v6 : Int32) (hw : shp w = (1, 0, 6, [])) (hfl : shp fl = (0, 1, 0, [fa + 2, fb + 2, fc + 2])) (hfa : shp fa = (1, 0, 8, [])) (hfb : shp fb = (1, 0, 4, [])) (hfc : shp fc = (1, 0, 4, [])) (M : MM) (h : ((((M.1 15 7) : Int32) ≤ v6 → At_X2_move_129 G w fl fa fb fc v2 v3 v4 0 M) ∧ (¬ (((M.1 15 7) : Int32) ≤ v6) → ((((v4 >>> (v6 &&& 31)) &&& 1) = (0 : Int32) → (vp_in v6 4) ∧ (∀ M4 : MM, M4 = ui M fb v6.toNatClampNeg 0 → (∀ x5 : Int32, x5 = v6 + 1 → At_X2_move_79 G w fl fa fb fc v2 v3 v4 x5 M4))) ∧ (¬ (((v4 >>> (v6 &&& 31)) &&& 1) = (0 : Int32)) → (∃ (r8 : Int32) (M6 : MM), Fn 2 mX2_passPump [.ref 1, .int v6, .ref w] M (some (.int r8)) M6 ∧ (vp_in v6 4) ∧ (∀ M10 : MM, M10 = ui M6 fb v6.toNatClampNeg r8 → (∀ x11 : Int32, x11 = v6 + 1 → At_X2_move_79 G w fl fa fb fc v2 v3 v4 x11 M10)))))))) : At_X2_move_79 G w fl fa fb fc v2 v3 v4 v6 M := by
  unfold At_X2_move_79
  refine e_iload (pc := 79) g 6 dX2_move_79 rfl ?_
  refine e_aload_n (pc := 81) g 0 dX2_move_81 rfl ?_
  refine e_getR (pc := 82) g 15 fl_X2_28 sh_1 rfl dX2_move_82 ?_
  refine e_getI (pc := 85) g fl_X2_99 sh_15 rfl dX2_move_85 ?_
  refine e_icmp_ge (pc := 88) g 126 dX2_move_88 (by decide) (fun c1 => ?_) (fun c1 => ?_)
  · have h := h.1 c1
    refine e_iconst (pc := 126) g 0 dX2_move_126 kc_0 ?_
    refine e_istore (pc := 127) g [(0, .ref 1), (1, .ref w), (2, .int v2), (3, .int v3), (4, .int v4), (5, .ref fl), (6, .int 0)] dX2_move_127 (by decide) rfl ?_
    exact h
  · have h := h.2 c1
    refine e_aload (pc := 91) g 5 dX2_move_91 rfl ?_
    refine e_getR (pc := 93) g fb fl_X2_109 hfl rfl dX2_move_93 ?_
    refine e_iload (pc := 96) g 6 dX2_move_96 rfl ?_
    refine e_iload (pc := 98) g 4 dX2_move_98 rfl ?_
    refine e_iload (pc := 100) g 6 dX2_move_100 rfl ?_
    refine e_ishr (pc := 102) g dX2_move_102 ?_
    refine e_iconst (pc := 103) g 1 dX2_move_103 kc_1 ?_
    refine e_iand (pc := 104) g dX2_move_104 ?_
    refine e_if_eq (pc := 105) g 118 dX2_move_105 (by decide) (fun c2 => ?_) (fun c2 => ?_)
    · have h := h.1 c2
      refine e_iconst (pc := 118) g 0 dX2_move_118 kc_0 ?_
      obtain ⟨o3, h⟩ := h
      refine e_iast (pc := 119) g hfb o3 dX2_move_119 ?_
      obtain ⟨M4, qM4⟩ : ∃ y : MM, y = ui M fb v6.toNatClampNeg 0 := ⟨_, rfl⟩
      have h := h M4 qM4
      refine e_to (M' := M4) rfl rfl (by rw [qM4]) ?_
      obtain ⟨x5, qx5⟩ : ∃ y : Int32, y = v6 + 1 := ⟨_, rfl⟩
      have h := h x5 qx5
      refine e_iinc (pc := 120) g 6 x5 [(0, .ref 1), (1, .ref w), (2, .int v2), (3, .int v3), (4, .int v4), (5, .ref fl), (6, .int x5)] dX2_move_120 rfl (by rw [qx5]; rfl) (by decide) rfl ?_
      refine e_goto (pc := 123) g 79 dX2_move_123 (by decide) ?_
      exact h
    · have h := h.2 c2
      refine e_aload_n (pc := 108) g 0 dX2_move_108 rfl ?_
      refine e_iload (pc := 109) g 6 dX2_move_109 rfl ?_
      refine e_aload_n (pc := 111) g 1 dX2_move_111 rfl ?_
      obtain ⟨r8, M6, f7, h⟩ := h
      refine e_callV (As := [.int v6, .ref w]) (S := [.int v6, .ref fb]) (pc := 112) g ok_X2_passPump ml_X2_131 sh_1 ⟨_, rfl, rfl⟩ f7 (by omega) rfl (Nat.le_of_ble_eq_true rfl) dX2_move_112 ?_
      refine e_to (S' := [.int r8, .int v6, .ref fb]) rfl rfl rfl ?_
      refine e_goto (pc := 115) g 119 dX2_move_115 (by decide) ?_
      obtain ⟨o9, h⟩ := h
      refine e_iast (pc := 119) g hfb o9 dX2_move_119 ?_
      obtain ⟨M10, qM10⟩ : ∃ y : MM, y = ui M6 fb v6.toNatClampNeg r8 := ⟨_, rfl⟩
      have h := h M10 qM10
      refine e_to (M' := M10) rfl rfl (by rw [qM10]) ?_
      obtain ⟨x11, qx11⟩ : ∃ y : Int32, y = v6 + 1 := ⟨_, rfl⟩
      have h := h x11 qx11
      refine e_iinc (pc := 120) g 6 x11 [(0, .ref 1), (1, .ref w), (2, .int v2), (3, .int v3), (4, .int v4), (5, .ref fl), (6, .int x11)] dX2_move_120 rfl (by rw [qx11]; rfl) (by decide) rfl ?_
      refine e_goto (pc := 123) g 79 dX2_move_123 (by decide) ?_
      exact h
set_option maxHeartbeats 4000000 in
set_option maxRecDepth 100000 in
theorem b_X2_move_129 {G : GC} {n : Nat} {r : Option Value} {M' : MM} (g : Good G mX2_move n) (gr : GoodR G r M') (hn : 3 ≤ n) (w : Nat) (fl fa fb fc : Nat) (v2 : Int32) (v3 : Int32) (v4 : Int32) (v6 : Int32) (hw : shp w = (1, 0, 6, [])) (hfl : shp fl = (0, 1, 0, [fa + 2, fb + 2, fc + 2])) (hfa : shp fa = (1, 0, 8, [])) (hfb : shp fb = (1, 0, 4, [])) (hfc : shp fc = (1, 0, 4, [])) (M : MM) (h : ((((M.1 22 3) : Int32) ≤ v6 → (r = none ∧ M' = M)) ∧ (¬ (((M.1 22 3) : Int32) ≤ v6) → (vp_in v6 4) ∧ (((M.1 25 v6.toNatClampNeg) = (0 : Int32) → (∀ M4 : MM, M4 = ui M fc v6.toNatClampNeg 0 → (∀ x5 : Int32, x5 = v6 + 1 → At_X2_move_129 G w fl fa fb fc v2 v3 v4 x5 M4))) ∧ (¬ ((M.1 25 v6.toNatClampNeg) = (0 : Int32)) → (∃ (r8 : Int32) (M6 : MM), Fn 2 mX9_hourOfDay [.int v3] M (some (.int r8)) M6 ∧ (vp_in r8 24) ∧ (∃ (r12 : Int32) (M10 : MM), Fn 2 mX2_passSluice [.ref 1, .int v6, .ref w, .int (M6.1 30 r8.toNatClampNeg)] M6 (some (.int r12)) M10 ∧ (∀ M13 : MM, M13 = ui M10 fc v6.toNatClampNeg r12 → (∀ x14 : Int32, x14 = v6 + 1 → At_X2_move_129 G w fl fa fb fc v2 v3 v4 x14 M13))))))))) : At_X2_move_129 G w fl fa fb fc v2 v3 v4 v6 M := by
  unfold At_X2_move_129
  refine e_iload (pc := 129) g 6 dX2_move_129 rfl ?_
  refine e_aload_n (pc := 131) g 0 dX2_move_131 rfl ?_
  refine e_getR (pc := 132) g 22 fl_X2_35 sh_1 rfl dX2_move_132 ?_
  refine e_getI (pc := 135) g fl_X2_111 sh_22 rfl dX2_move_135 ?_
  refine e_icmp_ge (pc := 138) g 188 dX2_move_138 (by decide) (fun c1 => ?_) (fun c1 => ?_)
  · have h := h.1 c1
    exact e_vret (pc := 188) g gr rfl dX2_move_188 h
  · have h := h.2 c1
    refine e_aload (pc := 141) g 5 dX2_move_141 rfl ?_
    refine e_getR (pc := 143) g fc fl_X2_113 hfl rfl dX2_move_143 ?_
    refine e_iload (pc := 146) g 6 dX2_move_146 rfl ?_
    refine e_aload_n (pc := 148) g 0 dX2_move_148 rfl ?_
    refine e_getR (pc := 149) g 22 fl_X2_35 sh_1 rfl dX2_move_149 ?_
    refine e_getR (pc := 152) g 25 fl_X2_134 sh_22 rfl dX2_move_152 ?_
    refine e_iload (pc := 155) g 6 dX2_move_155 rfl ?_
    obtain ⟨o2, h⟩ := h
    refine e_zald (pc := 157) g sh_25 o2 dX2_move_157 ?_
    refine e_if_eq (pc := 158) g 180 dX2_move_158 (by decide) (fun c3 => ?_) (fun c3 => ?_)
    · have h := h.1 c3
      refine e_iconst (pc := 180) g 0 dX2_move_180 kc_0 ?_
      refine e_iast (pc := 181) g hfc o2 dX2_move_181 ?_
      obtain ⟨M4, qM4⟩ : ∃ y : MM, y = ui M fc v6.toNatClampNeg 0 := ⟨_, rfl⟩
      have h := h M4 qM4
      refine e_to (M' := M4) rfl rfl (by rw [qM4]) ?_
      obtain ⟨x5, qx5⟩ : ∃ y : Int32, y = v6 + 1 := ⟨_, rfl⟩
      have h := h x5 qx5
      refine e_iinc (pc := 182) g 6 x5 [(0, .ref 1), (1, .ref w), (2, .int v2), (3, .int v3), (4, .int v4), (5, .ref fl), (6, .int x5)] dX2_move_182 rfl (by rw [qx5]; rfl) (by decide) rfl ?_
      refine e_goto (pc := 185) g 129 dX2_move_185 (by decide) ?_
      exact h
    · have h := h.2 c3
      refine e_aload_n (pc := 161) g 0 dX2_move_161 rfl ?_
      refine e_iload (pc := 162) g 6 dX2_move_162 rfl ?_
      refine e_aload_n (pc := 164) g 1 dX2_move_164 rfl ?_
      refine e_aload_n (pc := 165) g 0 dX2_move_165 rfl ?_
      refine e_getR (pc := 166) g 30 fl_X2_46 sh_1 rfl dX2_move_166 ?_
      refine e_iload_n (pc := 169) g 3 dX2_move_169 rfl ?_
      obtain ⟨r8, M6, f7, h⟩ := h
      refine e_callS (As := [.int v3]) (S := [.ref 30, .ref w, .int v6, .ref 1, .int v6, .ref fc]) (pc := 170) g ok_X9_hourOfDay ml_X2_115 f7 (by omega) rfl (Nat.le_of_ble_eq_true rfl) dX2_move_170 ?_
      refine e_to (S' := [.int r8, .ref 30, .ref w, .int v6, .ref 1, .int v6, .ref fc]) rfl rfl rfl ?_
      obtain ⟨o9, h⟩ := h
      refine e_iald (pc := 173) g sh_30 o9 dX2_move_173 ?_
      obtain ⟨r12, M10, f11, h⟩ := h
      refine e_callV (As := [.int v6, .ref w, .int (M6.1 30 r8.toNatClampNeg)]) (S := [.int v6, .ref fc]) (pc := 174) g ok_X2_passSluice ml_X2_138 sh_1 ⟨_, rfl, rfl⟩ f11 (by omega) rfl (Nat.le_of_ble_eq_true rfl) dX2_move_174 ?_
      refine e_to (S' := [.int r12, .int v6, .ref fc]) rfl rfl rfl ?_
      refine e_goto (pc := 177) g 181 dX2_move_177 (by decide) ?_
      refine e_iast (pc := 181) g hfc o2 dX2_move_181 ?_
      obtain ⟨M13, qM13⟩ : ∃ y : MM, y = ui M10 fc v6.toNatClampNeg r12 := ⟨_, rfl⟩
      have h := h M13 qM13
      refine e_to (M' := M13) rfl rfl (by rw [qM13]) ?_
      obtain ⟨x14, qx14⟩ : ∃ y : Int32, y = v6 + 1 := ⟨_, rfl⟩
      have h := h x14 qx14
      refine e_iinc (pc := 182) g 6 x14 [(0, .ref 1), (1, .ref w), (2, .int v2), (3, .int v3), (4, .int v4), (5, .ref fl), (6, .int x14)] dX2_move_182 rfl (by rw [qx14]; rfl) (by decide) rfl ?_
      refine e_goto (pc := 185) g 129 dX2_move_185 (by decide) ?_
      exact h
set_option maxHeartbeats 4000000 in
set_option maxRecDepth 100000 in
theorem b_X2_passWeir_0 {G : GC} {n : Nat} {r : Option Value} {M' : MM} (g : Good G mX2_passWeir n) (gr : GoodR G r M') (hn : 2 ≤ n) (a1 : Int32) (w : Nat)  (hw : shp w = (1, 0, 6, [])) (M : MM) (h : (vp_in a1 8) ∧ (∀ x2 : Int32, x2 = (M.1 11 a1.toNatClampNeg) → (∀ x3 : Int32, x3 = (M.1 12 a1.toNatClampNeg) → (∃ (r6 : Int32) (M4 : MM), Fn 1 mX0_level [.ref 2, .int x2, .ref w] M (some (.int r6)) M4 ∧ (∃ (r9 : Int32) (M7 : MM), Fn 1 mX0_level [.ref 2, .int x3, .ref w] M4 (some (.int r9)) M7 ∧ (∃ (r12 : Int32) (M10 : MM), Fn 1 mJ9_max_7cf53 [.int (M4.1 13 a1.toNatClampNeg), .int r9] M7 (some (.int r12)) M10 ∧ (∀ x13 : Int64, x13 = ((r6 - r12).toInt64) → (vp_in x2 6) ∧ (vp_in x3 6) ∧ (∀ x16 : Int64, x16 = (((M10.1 3 x2.toNatClampNeg) + (M10.1 3 x3.toNatClampNeg)).toInt64) → ((x13 ≤ (0 : Int64) → (r = some (.int 0) ∧ M' = M10)) ∧ (¬ (x13 ≤ (0 : Int64)) → ((x16 ≥ (1 : Int64) → (¬ x16 = (0 : Int64)) ∧ (∀ x20 : Int64, x20 = (((((M10.1 3 x2.toNatClampNeg) * (M10.1 3 x3.toNatClampNeg)).toInt64) * x13) / x16) → (∃ (r23 : Int64) (M21 : MM), Fn 1 mJ9_min_f86c9 [.long (((M10.1 14 a1.toNatClampNeg).toInt64) * x13), .long x20] M10 (some (.long r23)) M21 ∧ (∃ (r26 : Int64) (M24 : MM), Fn 1 mJ9_min_f86c9 [.long ((M10.1 w x2.toNatClampNeg).toInt64), .long r23] M21 (some (.long r26)) M24 ∧ (∀ x27 : Int32, x27 = (r26.toInt32) → (∀ M28 : MM, M28 = ui M24 w x2.toNatClampNeg ((M24.1 w x2.toNatClampNeg) - x27) → (∀ M29 : MM, M29 = ui M28 w x3.toNatClampNeg ((M28.1 w x3.toNatClampNeg) + x27) → (r = some (.int x27) ∧ M' = M29)))))))) ∧ (¬ (x16 ≥ (1 : Int64)) → (r = some (.int 0) ∧ M' = M10))))))))))))) : Ev G 0 [(0, .ref 1), (1, .int a1), (2, .ref w)] [] M := by
  refine e_aload_n (pc := 0) g 0 dX2_passWeir_0 rfl ?_
  refine e_getR (pc := 1) g 10 fl_X2_21 sh_1 rfl dX2_passWeir_1 ?_
  refine e_getR (pc := 4) g 11 fl_X2_142 sh_10 rfl dX2_passWeir_4 ?_
  refine e_iload_n (pc := 7) g 1 dX2_passWeir_7 rfl ?_
  obtain ⟨o1, h⟩ := h
  refine e_iald (pc := 8) g sh_11 o1 dX2_passWeir_8 ?_
  obtain ⟨x2, qx2⟩ : ∃ y : Int32, y = (M.1 11 a1.toNatClampNeg) := ⟨_, rfl⟩
  have h := h x2 qx2
  refine e_to (S' := [.int x2]) rfl (by rw [qx2]) rfl ?_
  refine e_istore_n (pc := 9) g [(0, .ref 1), (1, .int a1), (2, .ref w), (3, .int x2)] dX2_passWeir_9 (by decide) rfl ?_
  refine e_aload_n (pc := 10) g 0 dX2_passWeir_10 rfl ?_
  refine e_getR (pc := 11) g 10 fl_X2_21 sh_1 rfl dX2_passWeir_11 ?_
  refine e_getR (pc := 14) g 12 fl_X2_143 sh_10 rfl dX2_passWeir_14 ?_
  refine e_iload_n (pc := 17) g 1 dX2_passWeir_17 rfl ?_
  refine e_iald (pc := 18) g sh_12 o1 dX2_passWeir_18 ?_
  obtain ⟨x3, qx3⟩ : ∃ y : Int32, y = (M.1 12 a1.toNatClampNeg) := ⟨_, rfl⟩
  have h := h x3 qx3
  refine e_to (S' := [.int x3]) rfl (by rw [qx3]) rfl ?_
  refine e_istore (pc := 19) g [(0, .ref 1), (1, .int a1), (2, .ref w), (3, .int x2), (4, .int x3)] dX2_passWeir_19 (by decide) rfl ?_
  refine e_aload_n (pc := 21) g 0 dX2_passWeir_21 rfl ?_
  refine e_getR (pc := 22) g 2 fl_X2_12 sh_1 rfl dX2_passWeir_22 ?_
  refine e_iload_n (pc := 25) g 3 dX2_passWeir_25 rfl ?_
  refine e_aload_n (pc := 26) g 2 dX2_passWeir_26 rfl ?_
  obtain ⟨r6, M4, f5, h⟩ := h
  refine e_callV (As := [.int x2, .ref w]) (S := []) (pc := 27) g ok_X0_level ml_X2_144 sh_2 ⟨_, rfl, rfl⟩ f5 (by omega) rfl (Nat.le_of_ble_eq_true rfl) dX2_passWeir_27 ?_
  refine e_to (S' := [.int r6]) rfl rfl rfl ?_
  refine e_aload_n (pc := 30) g 0 dX2_passWeir_30 rfl ?_
  refine e_getR (pc := 31) g 10 fl_X2_21 sh_1 rfl dX2_passWeir_31 ?_
  refine e_getR (pc := 34) g 13 fl_X2_147 sh_10 rfl dX2_passWeir_34 ?_
  refine e_iload_n (pc := 37) g 1 dX2_passWeir_37 rfl ?_
  refine e_iald (pc := 38) g sh_13 o1 dX2_passWeir_38 ?_
  refine e_aload_n (pc := 39) g 0 dX2_passWeir_39 rfl ?_
  refine e_getR (pc := 40) g 2 fl_X2_12 sh_1 rfl dX2_passWeir_40 ?_
  refine e_iload (pc := 43) g 4 dX2_passWeir_43 rfl ?_
  refine e_aload_n (pc := 45) g 2 dX2_passWeir_45 rfl ?_
  obtain ⟨r9, M7, f8, h⟩ := h
  refine e_callV (As := [.int x3, .ref w]) (S := [.int (M4.1 13 a1.toNatClampNeg), .int r6]) (pc := 46) g ok_X0_level ml_X2_144 sh_2 ⟨_, rfl, rfl⟩ f8 (by omega) rfl (Nat.le_of_ble_eq_true rfl) dX2_passWeir_46 ?_
  refine e_to (S' := [.int r9, .int (M4.1 13 a1.toNatClampNeg), .int r6]) rfl rfl rfl ?_
  obtain ⟨r12, M10, f11, h⟩ := h
  refine e_callS (As := [.int (M4.1 13 a1.toNatClampNeg), .int r9]) (S := [.int r6]) (pc := 49) g ok_J9_max_7cf53 ml_X2_150 f11 (by omega) rfl (Nat.le_of_ble_eq_true rfl) dX2_passWeir_49 ?_
  refine e_to (S' := [.int r12, .int r6]) rfl rfl rfl ?_
  refine e_isub (pc := 52) g dX2_passWeir_52 ?_
  refine e_i2l (pc := 53) g dX2_passWeir_53 ?_
  obtain ⟨x13, qx13⟩ : ∃ y : Int64, y = ((r6 - r12).toInt64) := ⟨_, rfl⟩
  have h := h x13 qx13
  refine e_to (S' := [.long x13]) rfl (by rw [qx13]) rfl ?_
  refine e_lstore (pc := 54) g [(0, .ref 1), (1, .int a1), (2, .ref w), (3, .int x2), (4, .int x3), (5, .long x13)] dX2_passWeir_54 (by decide) rfl ?_
  refine e_aload_n (pc := 56) g 0 dX2_passWeir_56 rfl ?_
  refine e_getR (pc := 57) g 2 fl_X2_12 sh_1 rfl dX2_passWeir_57 ?_
  refine e_getR (pc := 60) g 3 fl_X2_83 sh_2 rfl dX2_passWeir_60 ?_
  refine e_iload_n (pc := 63) g 3 dX2_passWeir_63 rfl ?_
  obtain ⟨o14, h⟩ := h
  refine e_iald (pc := 64) g sh_3 o14 dX2_passWeir_64 ?_
  refine e_aload_n (pc := 65) g 0 dX2_passWeir_65 rfl ?_
  refine e_getR (pc := 66) g 2 fl_X2_12 sh_1 rfl dX2_passWeir_66 ?_
  refine e_getR (pc := 69) g 3 fl_X2_83 sh_2 rfl dX2_passWeir_69 ?_
  refine e_iload (pc := 72) g 4 dX2_passWeir_72 rfl ?_
  obtain ⟨o15, h⟩ := h
  refine e_iald (pc := 74) g sh_3 o15 dX2_passWeir_74 ?_
  refine e_iadd (pc := 75) g dX2_passWeir_75 ?_
  refine e_i2l (pc := 76) g dX2_passWeir_76 ?_
  obtain ⟨x16, qx16⟩ : ∃ y : Int64, y = (((M10.1 3 x2.toNatClampNeg) + (M10.1 3 x3.toNatClampNeg)).toInt64) := ⟨_, rfl⟩
  have h := h x16 qx16
  refine e_to (S' := [.long x16]) rfl (by rw [qx16]) rfl ?_
  refine e_lstore (pc := 77) g [(0, .ref 1), (1, .int a1), (2, .ref w), (3, .int x2), (4, .int x3), (5, .long x13), (7, .long x16)] dX2_passWeir_77 (by decide) rfl ?_
  refine e_lload (pc := 79) g 5 dX2_passWeir_79 rfl ?_
  refine e_lconst (pc := 81) g 0 dX2_passWeir_81 kl_0 ?_
  refine e_lcmp (pc := 82) g dX2_passWeir_82 ?_
  refine e_if_le (pc := 83) g 93 dX2_passWeir_83 (by decide) (fun c17 => ?_) (fun c17 => ?_)
  · have h := h.1 (lc_le.mp c17)
    refine e_iconst (pc := 93) g 0 dX2_passWeir_93 kc_0 ?_
    exact e_iret (pc := 94) g gr rfl dX2_passWeir_94 h
  · have h := h.2 (fun z => c17 (lc_le.mpr z))
    refine e_lload (pc := 86) g 6 dX2_passWeir_86 rfl ?_
    refine e_lconst (pc := 88) g 1 dX2_passWeir_88 kl_1 ?_
    refine e_lcmp (pc := 89) g dX2_passWeir_89 ?_
    refine e_if_ge (pc := 90) g 95 dX2_passWeir_90 (by decide) (fun c18 => ?_) (fun c18 => ?_)
    · have h := h.1 (lc_ge.mp c18)
      refine e_aload_n (pc := 95) g 0 dX2_passWeir_95 rfl ?_
      refine e_getR (pc := 96) g 2 fl_X2_12 sh_1 rfl dX2_passWeir_96 ?_
      refine e_getR (pc := 99) g 3 fl_X2_83 sh_2 rfl dX2_passWeir_99 ?_
      refine e_iload_n (pc := 102) g 3 dX2_passWeir_102 rfl ?_
      refine e_iald (pc := 103) g sh_3 o14 dX2_passWeir_103 ?_
      refine e_aload_n (pc := 104) g 0 dX2_passWeir_104 rfl ?_
      refine e_getR (pc := 105) g 2 fl_X2_12 sh_1 rfl dX2_passWeir_105 ?_
      refine e_getR (pc := 108) g 3 fl_X2_83 sh_2 rfl dX2_passWeir_108 ?_
      refine e_iload (pc := 111) g 4 dX2_passWeir_111 rfl ?_
      refine e_iald (pc := 113) g sh_3 o15 dX2_passWeir_113 ?_
      refine e_imul (pc := 114) g dX2_passWeir_114 ?_
      refine e_i2l (pc := 115) g dX2_passWeir_115 ?_
      refine e_lload (pc := 116) g 5 dX2_passWeir_116 rfl ?_
      refine e_lmul (pc := 118) g dX2_passWeir_118 ?_
      refine e_lload (pc := 119) g 6 dX2_passWeir_119 rfl ?_
      obtain ⟨o19, h⟩ := h
      refine e_ldiv (pc := 121) g dX2_passWeir_121 o19 ?_
      obtain ⟨x20, qx20⟩ : ∃ y : Int64, y = (((((M10.1 3 x2.toNatClampNeg) * (M10.1 3 x3.toNatClampNeg)).toInt64) * x13) / x16) := ⟨_, rfl⟩
      have h := h x20 qx20
      refine e_to (S' := [.long x20]) rfl (by rw [qx20]) rfl ?_
      refine e_lstore (pc := 122) g [(0, .ref 1), (1, .int a1), (2, .ref w), (3, .int x2), (4, .int x3), (5, .long x13), (7, .long x16), (9, .long x20)] dX2_passWeir_122 (by decide) rfl ?_
      refine e_aload_n (pc := 124) g 2 dX2_passWeir_124 rfl ?_
      refine e_iload_n (pc := 125) g 3 dX2_passWeir_125 rfl ?_
      refine e_iald (pc := 126) g hw o14 dX2_passWeir_126 ?_
      refine e_i2l (pc := 127) g dX2_passWeir_127 ?_
      refine e_aload_n (pc := 128) g 0 dX2_passWeir_128 rfl ?_
      refine e_getR (pc := 129) g 10 fl_X2_21 sh_1 rfl dX2_passWeir_129 ?_
      refine e_getR (pc := 132) g 14 fl_X2_155 sh_10 rfl dX2_passWeir_132 ?_
      refine e_iload_n (pc := 135) g 1 dX2_passWeir_135 rfl ?_
      refine e_iald (pc := 136) g sh_14 o1 dX2_passWeir_136 ?_
      refine e_i2l (pc := 137) g dX2_passWeir_137 ?_
      refine e_lload (pc := 138) g 5 dX2_passWeir_138 rfl ?_
      refine e_lmul (pc := 140) g dX2_passWeir_140 ?_
      refine e_lload (pc := 141) g 7 dX2_passWeir_141 rfl ?_
      obtain ⟨r23, M21, f22, h⟩ := h
      refine e_callS (As := [.long (((M10.1 14 a1.toNatClampNeg).toInt64) * x13), .long x20]) (S := [.long ((M10.1 w x2.toNatClampNeg).toInt64)]) (pc := 143) g ok_J9_min_f86c9 ml_X2_158 f22 (by omega) rfl (Nat.le_of_ble_eq_true rfl) dX2_passWeir_143 ?_
      refine e_to (S' := [.long r23, .long ((M10.1 w x2.toNatClampNeg).toInt64)]) rfl rfl rfl ?_
      obtain ⟨r26, M24, f25, h⟩ := h
      refine e_callS (As := [.long ((M10.1 w x2.toNatClampNeg).toInt64), .long r23]) (S := []) (pc := 146) g ok_J9_min_f86c9 ml_X2_158 f25 (by omega) rfl (Nat.le_of_ble_eq_true rfl) dX2_passWeir_146 ?_
      refine e_to (S' := [.long r26]) rfl rfl rfl ?_
      refine e_l2i (pc := 149) g dX2_passWeir_149 ?_
      obtain ⟨x27, qx27⟩ : ∃ y : Int32, y = (r26.toInt32) := ⟨_, rfl⟩
      have h := h x27 qx27
      refine e_to (S' := [.int x27]) rfl (by rw [qx27]) rfl ?_
      refine e_istore (pc := 150) g [(0, .ref 1), (1, .int a1), (2, .ref w), (3, .int x2), (4, .int x3), (5, .long x13), (7, .long x16), (9, .long x20), (11, .int x27)] dX2_passWeir_150 (by decide) rfl ?_
      refine e_aload_n (pc := 152) g 2 dX2_passWeir_152 rfl ?_
      refine e_iload_n (pc := 153) g 3 dX2_passWeir_153 rfl ?_
      refine e_dup2 (pc := 154) g dX2_passWeir_154 rfl rfl ?_
      refine e_iald (pc := 155) g hw o14 dX2_passWeir_155 ?_
      refine e_iload (pc := 156) g 8 dX2_passWeir_156 rfl ?_
      refine e_isub (pc := 158) g dX2_passWeir_158 ?_
      refine e_iast (pc := 159) g hw o14 dX2_passWeir_159 ?_
      obtain ⟨M28, qM28⟩ : ∃ y : MM, y = ui M24 w x2.toNatClampNeg ((M24.1 w x2.toNatClampNeg) - x27) := ⟨_, rfl⟩
      have h := h M28 qM28
      refine e_to (M' := M28) rfl rfl (by rw [qM28]) ?_
      refine e_aload_n (pc := 160) g 2 dX2_passWeir_160 rfl ?_
      refine e_iload (pc := 161) g 4 dX2_passWeir_161 rfl ?_
      refine e_dup2 (pc := 163) g dX2_passWeir_163 rfl rfl ?_
      refine e_iald (pc := 164) g hw o15 dX2_passWeir_164 ?_
      refine e_iload (pc := 165) g 8 dX2_passWeir_165 rfl ?_
      refine e_iadd (pc := 167) g dX2_passWeir_167 ?_
      refine e_iast (pc := 168) g hw o15 dX2_passWeir_168 ?_
      obtain ⟨M29, qM29⟩ : ∃ y : MM, y = ui M28 w x3.toNatClampNeg ((M28.1 w x3.toNatClampNeg) + x27) := ⟨_, rfl⟩
      have h := h M29 qM29
      refine e_to (M' := M29) rfl rfl (by rw [qM29]) ?_
      refine e_iload (pc := 169) g 8 dX2_passWeir_169 rfl ?_
      exact e_iret (pc := 171) g gr rfl dX2_passWeir_171 h
    · have h := h.2 (fun z => c18 (lc_ge.mpr z))
      refine e_iconst (pc := 93) g 0 dX2_passWeir_93 kc_0 ?_
      exact e_iret (pc := 94) g gr rfl dX2_passWeir_94 h
set_option maxHeartbeats 4000000 in
set_option maxRecDepth 100000 in
theorem b_X2_passPump_0 {G : GC} {n : Nat} {r : Option Value} {M' : MM} (g : Good G mX2_passPump n) (gr : GoodR G r M') (hn : 2 ≤ n) (a1 : Int32) (w : Nat)  (hw : shp w = (1, 0, 6, [])) (M : MM) (h : (vp_in a1 4) ∧ (∀ x2 : Int32, x2 = (M.1 16 a1.toNatClampNeg) → (∀ x3 : Int32, x3 = (M.1 17 a1.toNatClampNeg) → (vp_in x2 6) ∧ (∃ (r7 : Int32) (M5 : MM), Fn 1 mJ9_min_7cf53 [.int (M.1 18 a1.toNatClampNeg), .int (M.1 w x2.toNatClampNeg)] M (some (.int r7)) M5 ∧ (∀ M8 : MM, M8 = ui M5 w x2.toNatClampNeg ((M5.1 w x2.toNatClampNeg) - r7) → ((x3 = ((-4) : Int32) → (r = some (.int r7) ∧ M' = M8)) ∧ (¬ (x3 = ((-4) : Int32)) → (vp_in x3 6) ∧ (∀ M11 : MM, M11 = ui M8 w x3.toNatClampNeg ((M8.1 w x3.toNatClampNeg) + r7) → (r = some (.int r7) ∧ M' = M11))))))))) : Ev G 0 [(0, .ref 1), (1, .int a1), (2, .ref w)] [] M := by
  refine e_aload_n (pc := 0) g 0 dX2_passPump_0 rfl ?_
  refine e_getR (pc := 1) g 15 fl_X2_28 sh_1 rfl dX2_passPump_1 ?_
  refine e_getR (pc := 4) g 16 fl_X2_106 sh_15 rfl dX2_passPump_4 ?_
  refine e_iload_n (pc := 7) g 1 dX2_passPump_7 rfl ?_
  obtain ⟨o1, h⟩ := h
  refine e_iald (pc := 8) g sh_16 o1 dX2_passPump_8 ?_
  obtain ⟨x2, qx2⟩ : ∃ y : Int32, y = (M.1 16 a1.toNatClampNeg) := ⟨_, rfl⟩
  have h := h x2 qx2
  refine e_to (S' := [.int x2]) rfl (by rw [qx2]) rfl ?_
  refine e_istore_n (pc := 9) g [(0, .ref 1), (1, .int a1), (2, .ref w), (3, .int x2)] dX2_passPump_9 (by decide) rfl ?_
  refine e_aload_n (pc := 10) g 0 dX2_passPump_10 rfl ?_
  refine e_getR (pc := 11) g 15 fl_X2_28 sh_1 rfl dX2_passPump_11 ?_
  refine e_getR (pc := 14) g 17 fl_X2_100 sh_15 rfl dX2_passPump_14 ?_
  refine e_iload_n (pc := 17) g 1 dX2_passPump_17 rfl ?_
  refine e_iald (pc := 18) g sh_17 o1 dX2_passPump_18 ?_
  obtain ⟨x3, qx3⟩ : ∃ y : Int32, y = (M.1 17 a1.toNatClampNeg) := ⟨_, rfl⟩
  have h := h x3 qx3
  refine e_to (S' := [.int x3]) rfl (by rw [qx3]) rfl ?_
  refine e_istore (pc := 19) g [(0, .ref 1), (1, .int a1), (2, .ref w), (3, .int x2), (4, .int x3)] dX2_passPump_19 (by decide) rfl ?_
  refine e_aload_n (pc := 21) g 0 dX2_passPump_21 rfl ?_
  refine e_getR (pc := 22) g 15 fl_X2_28 sh_1 rfl dX2_passPump_22 ?_
  refine e_getR (pc := 25) g 18 fl_X2_162 sh_15 rfl dX2_passPump_25 ?_
  refine e_iload_n (pc := 28) g 1 dX2_passPump_28 rfl ?_
  refine e_iald (pc := 29) g sh_18 o1 dX2_passPump_29 ?_
  refine e_aload_n (pc := 30) g 2 dX2_passPump_30 rfl ?_
  refine e_iload_n (pc := 31) g 3 dX2_passPump_31 rfl ?_
  obtain ⟨o4, h⟩ := h
  refine e_iald (pc := 32) g hw o4 dX2_passPump_32 ?_
  obtain ⟨r7, M5, f6, h⟩ := h
  refine e_callS (As := [.int (M.1 18 a1.toNatClampNeg), .int (M.1 w x2.toNatClampNeg)]) (S := []) (pc := 33) g ok_J9_min_7cf53 ml_X2_165 f6 (by omega) rfl (Nat.le_of_ble_eq_true rfl) dX2_passPump_33 ?_
  refine e_to (S' := [.int r7]) rfl rfl rfl ?_
  refine e_istore (pc := 36) g [(0, .ref 1), (1, .int a1), (2, .ref w), (3, .int x2), (4, .int x3), (5, .int r7)] dX2_passPump_36 (by decide) rfl ?_
  refine e_aload_n (pc := 38) g 2 dX2_passPump_38 rfl ?_
  refine e_iload_n (pc := 39) g 3 dX2_passPump_39 rfl ?_
  refine e_dup2 (pc := 40) g dX2_passPump_40 rfl rfl ?_
  refine e_iald (pc := 41) g hw o4 dX2_passPump_41 ?_
  refine e_iload (pc := 42) g 5 dX2_passPump_42 rfl ?_
  refine e_isub (pc := 44) g dX2_passPump_44 ?_
  refine e_iast (pc := 45) g hw o4 dX2_passPump_45 ?_
  obtain ⟨M8, qM8⟩ : ∃ y : MM, y = ui M5 w x2.toNatClampNeg ((M5.1 w x2.toNatClampNeg) - r7) := ⟨_, rfl⟩
  have h := h M8 qM8
  refine e_to (M' := M8) rfl rfl (by rw [qM8]) ?_
  refine e_iload (pc := 46) g 4 dX2_passPump_46 rfl ?_
  refine e_bipush (pc := 48) g (-4) dX2_passPump_48 kb_m4 ?_
  refine e_icmp_eq (pc := 50) g 62 dX2_passPump_50 (by decide) (fun c9 => ?_) (fun c9 => ?_)
  · have h := h.1 c9
    refine e_iload (pc := 62) g 5 dX2_passPump_62 rfl ?_
    exact e_iret (pc := 64) g gr rfl dX2_passPump_64 h
  · have h := h.2 c9
    refine e_aload_n (pc := 53) g 2 dX2_passPump_53 rfl ?_
    refine e_iload (pc := 54) g 4 dX2_passPump_54 rfl ?_
    refine e_dup2 (pc := 56) g dX2_passPump_56 rfl rfl ?_
    obtain ⟨o10, h⟩ := h
    refine e_iald (pc := 57) g hw o10 dX2_passPump_57 ?_
    refine e_iload (pc := 58) g 5 dX2_passPump_58 rfl ?_
    refine e_iadd (pc := 60) g dX2_passPump_60 ?_
    refine e_iast (pc := 61) g hw o10 dX2_passPump_61 ?_
    obtain ⟨M11, qM11⟩ : ∃ y : MM, y = ui M8 w x3.toNatClampNeg ((M8.1 w x3.toNatClampNeg) + r7) := ⟨_, rfl⟩
    have h := h M11 qM11
    refine e_to (M' := M11) rfl rfl (by rw [qM11]) ?_
    refine e_iload (pc := 62) g 5 dX2_passPump_62 rfl ?_
    exact e_iret (pc := 64) g gr rfl dX2_passPump_64 h
set_option maxHeartbeats 4000000 in
set_option maxRecDepth 100000 in
theorem b_X2_passSluice_0 {G : GC} {n : Nat} {r : Option Value} {M' : MM} (g : Good G mX2_passSluice n) (gr : GoodR G r M') (hn : 2 ≤ n) (a1 : Int32) (w : Nat) (a3 : Int32)  (hw : shp w = (1, 0, 6, [])) (M : MM) (h : (vp_in a1 4) ∧ (∀ x2 : Int32, x2 = (M.1 23 a1.toNatClampNeg) → (∃ (r5 : Int32) (M3 : MM), Fn 1 mX0_level [.ref 2, .int x2, .ref w] M (some (.int r5)) M3 ∧ (∀ x6 : Int64, x6 = ((r5 - a3).toInt64) → ((x6 > (0 : Int64) → (vp_in x2 6) ∧ (∃ (r11 : Int64) (M9 : MM), Fn 1 mJ9_min_f86c9 [.long (((M3.1 24 a1.toNatClampNeg).toInt64) * x6), .long ((M3.1 w x2.toNatClampNeg).toInt64)] M3 (some (.long r11)) M9 ∧ (∀ x12 : Int32, x12 = (r11.toInt32) → (∀ M13 : MM, M13 = ui M9 w x2.toNatClampNeg ((M9.1 w x2.toNatClampNeg) - x12) → (r = some (.int x12) ∧ M' = M13))))) ∧ (¬ (x6 > (0 : Int64)) → (r = some (.int 0) ∧ M' = M3))))))) : Ev G 0 [(0, .ref 1), (1, .int a1), (2, .ref w), (3, .int a3)] [] M := by
  refine e_aload_n (pc := 0) g 0 dX2_passSluice_0 rfl ?_
  refine e_getR (pc := 1) g 22 fl_X2_35 sh_1 rfl dX2_passSluice_1 ?_
  refine e_getR (pc := 4) g 23 fl_X2_112 sh_22 rfl dX2_passSluice_4 ?_
  refine e_iload_n (pc := 7) g 1 dX2_passSluice_7 rfl ?_
  obtain ⟨o1, h⟩ := h
  refine e_iald (pc := 8) g sh_23 o1 dX2_passSluice_8 ?_
  obtain ⟨x2, qx2⟩ : ∃ y : Int32, y = (M.1 23 a1.toNatClampNeg) := ⟨_, rfl⟩
  have h := h x2 qx2
  refine e_to (S' := [.int x2]) rfl (by rw [qx2]) rfl ?_
  refine e_istore (pc := 9) g [(0, .ref 1), (1, .int a1), (2, .ref w), (3, .int a3), (4, .int x2)] dX2_passSluice_9 (by decide) rfl ?_
  refine e_aload_n (pc := 11) g 0 dX2_passSluice_11 rfl ?_
  refine e_getR (pc := 12) g 2 fl_X2_12 sh_1 rfl dX2_passSluice_12 ?_
  refine e_iload (pc := 15) g 4 dX2_passSluice_15 rfl ?_
  refine e_aload_n (pc := 17) g 2 dX2_passSluice_17 rfl ?_
  obtain ⟨r5, M3, f4, h⟩ := h
  refine e_callV (As := [.int x2, .ref w]) (S := []) (pc := 18) g ok_X0_level ml_X2_144 sh_2 ⟨_, rfl, rfl⟩ f4 (by omega) rfl (Nat.le_of_ble_eq_true rfl) dX2_passSluice_18 ?_
  refine e_to (S' := [.int r5]) rfl rfl rfl ?_
  refine e_iload_n (pc := 21) g 3 dX2_passSluice_21 rfl ?_
  refine e_isub (pc := 22) g dX2_passSluice_22 ?_
  refine e_i2l (pc := 23) g dX2_passSluice_23 ?_
  obtain ⟨x6, qx6⟩ : ∃ y : Int64, y = ((r5 - a3).toInt64) := ⟨_, rfl⟩
  have h := h x6 qx6
  refine e_to (S' := [.long x6]) rfl (by rw [qx6]) rfl ?_
  refine e_lstore (pc := 24) g [(0, .ref 1), (1, .int a1), (2, .ref w), (3, .int a3), (4, .int x2), (5, .long x6)] dX2_passSluice_24 (by decide) rfl ?_
  refine e_lload (pc := 26) g 5 dX2_passSluice_26 rfl ?_
  refine e_lconst (pc := 28) g 0 dX2_passSluice_28 kl_0 ?_
  refine e_lcmp (pc := 29) g dX2_passSluice_29 ?_
  refine e_if_gt (pc := 30) g 35 dX2_passSluice_30 (by decide) (fun c7 => ?_) (fun c7 => ?_)
  · have h := h.1 (lc_gt.mp c7)
    refine e_aload_n (pc := 35) g 0 dX2_passSluice_35 rfl ?_
    refine e_getR (pc := 36) g 22 fl_X2_35 sh_1 rfl dX2_passSluice_36 ?_
    refine e_getR (pc := 39) g 24 fl_X2_167 sh_22 rfl dX2_passSluice_39 ?_
    refine e_iload_n (pc := 42) g 1 dX2_passSluice_42 rfl ?_
    refine e_iald (pc := 43) g sh_24 o1 dX2_passSluice_43 ?_
    refine e_i2l (pc := 44) g dX2_passSluice_44 ?_
    refine e_lload (pc := 45) g 5 dX2_passSluice_45 rfl ?_
    refine e_lmul (pc := 47) g dX2_passSluice_47 ?_
    refine e_aload_n (pc := 48) g 2 dX2_passSluice_48 rfl ?_
    refine e_iload (pc := 49) g 4 dX2_passSluice_49 rfl ?_
    obtain ⟨o8, h⟩ := h
    refine e_iald (pc := 51) g hw o8 dX2_passSluice_51 ?_
    refine e_i2l (pc := 52) g dX2_passSluice_52 ?_
    obtain ⟨r11, M9, f10, h⟩ := h
    refine e_callS (As := [.long (((M3.1 24 a1.toNatClampNeg).toInt64) * x6), .long ((M3.1 w x2.toNatClampNeg).toInt64)]) (S := []) (pc := 53) g ok_J9_min_f86c9 ml_X2_158 f10 (by omega) rfl (Nat.le_of_ble_eq_true rfl) dX2_passSluice_53 ?_
    refine e_to (S' := [.long r11]) rfl rfl rfl ?_
    refine e_l2i (pc := 56) g dX2_passSluice_56 ?_
    obtain ⟨x12, qx12⟩ : ∃ y : Int32, y = (r11.toInt32) := ⟨_, rfl⟩
    have h := h x12 qx12
    refine e_to (S' := [.int x12]) rfl (by rw [qx12]) rfl ?_
    refine e_istore (pc := 57) g [(0, .ref 1), (1, .int a1), (2, .ref w), (3, .int a3), (4, .int x2), (5, .long x6), (7, .int x12)] dX2_passSluice_57 (by decide) rfl ?_
    refine e_aload_n (pc := 59) g 2 dX2_passSluice_59 rfl ?_
    refine e_iload (pc := 60) g 4 dX2_passSluice_60 rfl ?_
    refine e_dup2 (pc := 62) g dX2_passSluice_62 rfl rfl ?_
    refine e_iald (pc := 63) g hw o8 dX2_passSluice_63 ?_
    refine e_iload (pc := 64) g 6 dX2_passSluice_64 rfl ?_
    refine e_isub (pc := 66) g dX2_passSluice_66 ?_
    refine e_iast (pc := 67) g hw o8 dX2_passSluice_67 ?_
    obtain ⟨M13, qM13⟩ : ∃ y : MM, y = ui M9 w x2.toNatClampNeg ((M9.1 w x2.toNatClampNeg) - x12) := ⟨_, rfl⟩
    have h := h M13 qM13
    refine e_to (M' := M13) rfl rfl (by rw [qM13]) ?_
    refine e_iload (pc := 68) g 6 dX2_passSluice_68 rfl ?_
    exact e_iret (pc := 70) g gr rfl dX2_passSluice_70 h
  · have h := h.2 (fun z => c7 (lc_gt.mpr z))
    refine e_iconst (pc := 33) g 0 dX2_passSluice_33 kc_0 ?_
    exact e_iret (pc := 34) g gr rfl dX2_passSluice_34 h

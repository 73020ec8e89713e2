set_option maxHeartbeats 4000000 in
set_option maxRecDepth 100000 in
theorem b_X4_add_0 {G : GC} {n : Nat} {r : Option Value} {M' : MM} (g : Good G mX4_add n) (gr : GoodR G r M') (hn : 1 ≤ n) (a1 : Int32) (a2 : Int32) (a3 : Int32) (a4 : Int32) (a5 : Int32)   (M : MM) (h : (((M.1 15 7) < (4 : Int32) → (vp_in (M.1 15 7) 4) ∧ (∀ M3 : MM, M3 = ui M 16 (M.1 15 7).toNatClampNeg a1 → (vp_in (M3.1 15 7) 4) ∧ (∀ M5 : MM, M5 = ui M3 17 (M3.1 15 7).toNatClampNeg a2 → (vp_in (M5.1 15 7) 4) ∧ (∀ M7 : MM, M7 = ui M5 18 (M5.1 15 7).toNatClampNeg a3 → (vp_in (M7.1 15 7) 4) ∧ (∀ M9 : MM, M9 = ui M7 19 (M7.1 15 7).toNatClampNeg a4 → (vp_in (M9.1 15 7) 4) ∧ (∀ M11 : MM, M11 = ui M9 20 (M9.1 15 7).toNatClampNeg a5 → (∀ M12 : MM, M12 = ui M11 15 7 ((M11.1 15 7) + 1) → (r = some (.int (M11.1 15 7)) ∧ M' = M12)))))))) ∧ (¬ ((M.1 15 7) < (4 : Int32)) → (r = some (.int (-3)) ∧ M' = M)))) : Ev G 0 [(0, .ref 15), (1, .int a1), (2, .int a2), (3, .int a3), (4, .int a4), (5, .int a5)] [] M := by
  refine e_aload_n (pc := 0) g 0 dX4_add_0 rfl ?_
  refine e_getI (pc := 1) g fl_X4_30 sh_15 rfl dX4_add_1 ?_
  refine e_iconst (pc := 4) g 4 dX4_add_4 kc_4 ?_
  refine e_icmp_lt (pc := 5) g 11 dX4_add_5 (by decide) (fun c1 => ?_) (fun c1 => ?_)
  · have h := h.1 c1
    refine e_aload_n (pc := 11) g 0 dX4_add_11 rfl ?_
    refine e_getR (pc := 12) g 16 fl_X4_9 sh_15 rfl dX4_add_12 ?_
    refine e_aload_n (pc := 15) g 0 dX4_add_15 rfl ?_
    refine e_getI (pc := 16) g fl_X4_30 sh_15 rfl dX4_add_16 ?_
    refine e_iload_n (pc := 19) g 1 dX4_add_19 rfl ?_
    obtain ⟨o2, h⟩ := h
    refine e_iast (pc := 20) g sh_16 o2 dX4_add_20 ?_
    obtain ⟨M3, qM3⟩ : ∃ y : MM, y = ui M 16 (M.1 15 7).toNatClampNeg a1 := ⟨_, rfl⟩
    have h := h M3 qM3
    refine e_to (M' := M3) rfl rfl (by rw [qM3]) ?_
    refine e_aload_n (pc := 21) g 0 dX4_add_21 rfl ?_
    refine e_getR (pc := 22) g 17 fl_X4_15 sh_15 rfl dX4_add_22 ?_
    refine e_aload_n (pc := 25) g 0 dX4_add_25 rfl ?_
    refine e_getI (pc := 26) g fl_X4_30 sh_15 rfl dX4_add_26 ?_
    refine e_iload_n (pc := 29) g 2 dX4_add_29 rfl ?_
    obtain ⟨o4, h⟩ := h
    refine e_iast (pc := 30) g sh_17 o4 dX4_add_30 ?_
    obtain ⟨M5, qM5⟩ : ∃ y : MM, y = ui M3 17 (M3.1 15 7).toNatClampNeg a2 := ⟨_, rfl⟩
    have h := h M5 qM5
    refine e_to (M' := M5) rfl rfl (by rw [qM5]) ?_
    refine e_aload_n (pc := 31) g 0 dX4_add_31 rfl ?_
    refine e_getR (pc := 32) g 18 fl_X4_18 sh_15 rfl dX4_add_32 ?_
    refine e_aload_n (pc := 35) g 0 dX4_add_35 rfl ?_
    refine e_getI (pc := 36) g fl_X4_30 sh_15 rfl dX4_add_36 ?_
    refine e_iload_n (pc := 39) g 3 dX4_add_39 rfl ?_
    obtain ⟨o6, h⟩ := h
    refine e_iast (pc := 40) g sh_18 o6 dX4_add_40 ?_
    obtain ⟨M7, qM7⟩ : ∃ y : MM, y = ui M5 18 (M5.1 15 7).toNatClampNeg a3 := ⟨_, rfl⟩
    have h := h M7 qM7
    refine e_to (M' := M7) rfl rfl (by rw [qM7]) ?_
    refine e_aload_n (pc := 41) g 0 dX4_add_41 rfl ?_
    refine e_getR (pc := 42) g 19 fl_X4_21 sh_15 rfl dX4_add_42 ?_
    refine e_aload_n (pc := 45) g 0 dX4_add_45 rfl ?_
    refine e_getI (pc := 46) g fl_X4_30 sh_15 rfl dX4_add_46 ?_
    refine e_iload (pc := 49) g 4 dX4_add_49 rfl ?_
    obtain ⟨o8, h⟩ := h
    refine e_iast (pc := 51) g sh_19 o8 dX4_add_51 ?_
    obtain ⟨M9, qM9⟩ : ∃ y : MM, y = ui M7 19 (M7.1 15 7).toNatClampNeg a4 := ⟨_, rfl⟩
    have h := h M9 qM9
    refine e_to (M' := M9) rfl rfl (by rw [qM9]) ?_
    refine e_aload_n (pc := 52) g 0 dX4_add_52 rfl ?_
    refine e_getR (pc := 53) g 20 fl_X4_24 sh_15 rfl dX4_add_53 ?_
    refine e_aload_n (pc := 56) g 0 dX4_add_56 rfl ?_
    refine e_getI (pc := 57) g fl_X4_30 sh_15 rfl dX4_add_57 ?_
    refine e_iload (pc := 60) g 5 dX4_add_60 rfl ?_
    obtain ⟨o10, h⟩ := h
    refine e_iast (pc := 62) g sh_20 o10 dX4_add_62 ?_
    obtain ⟨M11, qM11⟩ : ∃ y : MM, y = ui M9 20 (M9.1 15 7).toNatClampNeg a5 := ⟨_, rfl⟩
    have h := h M11 qM11
    refine e_to (M' := M11) rfl rfl (by rw [qM11]) ?_
    refine e_aload_n (pc := 63) g 0 dX4_add_63 rfl ?_
    refine e_dup (pc := 64) g dX4_add_64 rfl ?_
    refine e_getI (pc := 65) g fl_X4_30 sh_15 rfl dX4_add_65 ?_
    refine e_dup_x1 (pc := 68) g dX4_add_68 rfl rfl ?_
    refine e_iconst (pc := 69) g 1 dX4_add_69 kc_1 ?_
    refine e_iadd (pc := 70) g dX4_add_70 ?_
    refine e_putI (pc := 71) g fw_X4_30 sh_15 rfl dX4_add_71 ?_
    obtain ⟨M12, qM12⟩ : ∃ y : MM, y = ui M11 15 7 ((M11.1 15 7) + 1) := ⟨_, rfl⟩
    have h := h M12 qM12
    refine e_to (M' := M12) rfl rfl (by rw [qM12]) ?_
    exact e_iret (pc := 74) g gr rfl dX4_add_74 h
  · have h := h.2 c1
    refine e_bipush (pc := 8) g (-3) dX4_add_8 kb_m3 ?_
    exact e_iret (pc := 10) g gr rfl dX4_add_10 h
set_option maxHeartbeats 4000000 in
set_option maxRecDepth 100000 in
theorem b_X4_has_0 {G : GC} {n : Nat} {r : Option Value} {M' : MM} (g : Good G mX4_has n) (gr : GoodR G r M') (hn : 1 ≤ n) (a1 : Int32)   (M : MM) (h : ((if a1 < (0 : Int32) then 0 else (if ((M.1 15 7) : Int32) ≤ a1 then 0 else 1)) = (0 : Int32) ∨ (if a1 < (0 : Int32) then 0 else (if ((M.1 15 7) : Int32) ≤ a1 then 0 else 1)) = (1 : Int32)) ∧ (r = some (.int (if a1 < (0 : Int32) then 0 else (if ((M.1 15 7) : Int32) ≤ a1 then 0 else 1))) ∧ M' = M)) : Ev G 0 [(0, .ref 15), (1, .int a1)] [] M := by
  refine e_iload_n (pc := 0) g 1 dX4_has_0 rfl ?_
  have hj : Ev G 17 [(0, .ref 15), (1, .int a1)] [.int (if a1 < (0 : Int32) then 0 else (if ((M.1 15 7) : Int32) ≤ a1 then 0 else 1))] M := by
    obtain ⟨o3, h⟩ := h
    exact e_zret (pc := 17) g gr rfl o3 dX4_has_17 h
  refine e_if_lt (pc := 1) g 16 dX4_has_1 (by decide) (fun c1 => ?_) (fun c1 => ?_)
  · rw [if_pos c1] at hj
    refine e_iconst (pc := 16) g 0 dX4_has_16 kc_0 ?_
    exact hj
  · rw [if_neg c1] at hj
    refine e_iload_n (pc := 4) g 1 dX4_has_4 rfl ?_
    refine e_aload_n (pc := 5) g 0 dX4_has_5 rfl ?_
    refine e_getI (pc := 6) g fl_X4_30 sh_15 rfl dX4_has_6 ?_
    refine e_icmp_ge (pc := 9) g 16 dX4_has_9 (by decide) (fun c2 => ?_) (fun c2 => ?_)
    · rw [if_pos c2] at hj
      refine e_iconst (pc := 16) g 0 dX4_has_16 kc_0 ?_
      exact hj
    · rw [if_neg c2] at hj
      refine e_iconst (pc := 12) g 1 dX4_has_12 kc_1 ?_
      refine e_goto (pc := 13) g 17 dX4_has_13 (by decide) ?_
      exact hj
set_option maxHeartbeats 4000000 in
set_option maxRecDepth 100000 in
theorem b_X4_isOn_0 {G : GC} {n : Nat} {r : Option Value} {M' : MM} (g : Good G mX4_isOn n) (gr : GoodR G r M') (hn : 1 ≤ n) (a1 : Int32)   (M : MM) (h : ((if (((M.1 15 6) >>> (a1 &&& 31)) &&& 1) = (0 : Int32) then 0 else 1) = (0 : Int32) ∨ (if (((M.1 15 6) >>> (a1 &&& 31)) &&& 1) = (0 : Int32) then 0 else 1) = (1 : Int32)) ∧ (r = some (.int (if (((M.1 15 6) >>> (a1 &&& 31)) &&& 1) = (0 : Int32) then 0 else 1)) ∧ M' = M)) : Ev G 0 [(0, .ref 15), (1, .int a1)] [] M := by
  refine e_aload_n (pc := 0) g 0 dX4_isOn_0 rfl ?_
  refine e_getI (pc := 1) g fl_X4_34 sh_15 rfl dX4_isOn_1 ?_
  refine e_iload_n (pc := 4) g 1 dX4_isOn_4 rfl ?_
  refine e_ishr (pc := 5) g dX4_isOn_5 ?_
  refine e_iconst (pc := 6) g 1 dX4_isOn_6 kc_1 ?_
  refine e_iand (pc := 7) g dX4_isOn_7 ?_
  have hj : Ev G 16 [(0, .ref 15), (1, .int a1)] [.int (if (((M.1 15 6) >>> (a1 &&& 31)) &&& 1) = (0 : Int32) then 0 else 1)] M := by
    obtain ⟨o2, h⟩ := h
    exact e_zret (pc := 16) g gr rfl o2 dX4_isOn_16 h
  refine e_if_eq (pc := 8) g 15 dX4_isOn_8 (by decide) (fun c1 => ?_) (fun c1 => ?_)
  · rw [if_pos c1] at hj
    refine e_iconst (pc := 15) g 0 dX4_isOn_15 kc_0 ?_
    exact hj
  · rw [if_neg c1] at hj
    refine e_iconst (pc := 11) g 1 dX4_isOn_11 kc_1 ?_
    refine e_goto (pc := 12) g 16 dX4_isOn_12 (by decide) ?_
    exact hj
set_option maxHeartbeats 4000000 in
set_option maxRecDepth 100000 in
theorem b_X4_pausesAt_0 {G : GC} {n : Nat} {r : Option Value} {M' : MM} (g : Good G mX4_pausesAt n) (gr : GoodR G r M') (hn : 3 ≤ n) (a1 : Int32) (a2 : Int32)   (M : MM) (h : (vp_in a1 4) ∧ (∃ (r4 : Int32) (M2 : MM), Fn 2 mX9_hourOfDay [.int a2] M (some (.int r4)) M2 ∧ ((if (((M.1 20 a1.toNatClampNeg) >>> (r4 &&& 31)) &&& 1) = (0 : Int32) then 0 else 1) = (0 : Int32) ∨ (if (((M.1 20 a1.toNatClampNeg) >>> (r4 &&& 31)) &&& 1) = (0 : Int32) then 0 else 1) = (1 : Int32)) ∧ (r = some (.int (if (((M.1 20 a1.toNatClampNeg) >>> (r4 &&& 31)) &&& 1) = (0 : Int32) then 0 else 1)) ∧ M' = M2))) : Ev G 0 [(0, .ref 15), (1, .int a1), (2, .int a2)] [] M := by
  refine e_aload_n (pc := 0) g 0 dX4_pausesAt_0 rfl ?_
  refine e_getR (pc := 1) g 20 fl_X4_24 sh_15 rfl dX4_pausesAt_1 ?_
  refine e_iload_n (pc := 4) g 1 dX4_pausesAt_4 rfl ?_
  obtain ⟨o1, h⟩ := h
  refine e_iald (pc := 5) g sh_20 o1 dX4_pausesAt_5 ?_
  refine e_iload_n (pc := 6) g 2 dX4_pausesAt_6 rfl ?_
  obtain ⟨r4, M2, f3, h⟩ := h
  refine e_callS (As := [.int a2]) (S := [.int (M.1 20 a1.toNatClampNeg)]) (pc := 7) g ok_X9_hourOfDay ml_X4_37 f3 (by omega) rfl (Nat.le_of_ble_eq_true rfl) dX4_pausesAt_7 ?_
  refine e_to (S' := [.int r4, .int (M.1 20 a1.toNatClampNeg)]) rfl rfl rfl ?_
  refine e_ishr (pc := 10) g dX4_pausesAt_10 ?_
  refine e_iconst (pc := 11) g 1 dX4_pausesAt_11 kc_1 ?_
  refine e_iand (pc := 12) g dX4_pausesAt_12 ?_
  have hj : Ev G 21 [(0, .ref 15), (1, .int a1), (2, .int a2)] [.int (if (((M.1 20 a1.toNatClampNeg) >>> (r4 &&& 31)) &&& 1) = (0 : Int32) then 0 else 1)] M2 := by
    obtain ⟨o6, h⟩ := h
    exact e_zret (pc := 21) g gr rfl o6 dX4_pausesAt_21 h
  refine e_if_eq (pc := 13) g 20 dX4_pausesAt_13 (by decide) (fun c5 => ?_) (fun c5 => ?_)
  · rw [if_pos c5] at hj
    refine e_iconst (pc := 20) g 0 dX4_pausesAt_20 kc_0 ?_
    exact hj
  · rw [if_neg c5] at hj
    refine e_iconst (pc := 16) g 1 dX4_pausesAt_16 kc_1 ?_
    refine e_goto (pc := 17) g 21 dX4_pausesAt_17 (by decide) ?_
    exact hj
set_option maxHeartbeats 4000000 in
set_option maxRecDepth 100000 in
theorem b_X4_mustStayOff_0 {G : GC} {n : Nat} {r : Option Value} {M' : MM} (g : Good G mX4_mustStayOff n) (gr : GoodR G r M') (hn : 4 ≤ n) (a1 : Int32) (a2 : Int32)   (M : MM) (h : (∃ (r3 : Int32) (M1 : MM), Fn 1 mX4_isOn [.ref 15, .int a1] M (some (.int r3)) M1 ∧ ((¬ r3 = (0 : Int32) → (r = some (.int 0) ∧ M' = M1)) ∧ (r3 = (0 : Int32) → (∃ (r7 : Int32) (M5 : MM), Fn 3 mX4_pausesAt [.ref 15, .int a1, .int a2] M1 (some (.int r7)) M5 ∧ ((if r7 = (0 : Int32) then 0 else 1) = (0 : Int32) ∨ (if r7 = (0 : Int32) then 0 else 1) = (1 : Int32)) ∧ (r = some (.int (if r7 = (0 : Int32) then 0 else 1)) ∧ M' = M5)))))) : Ev G 0 [(0, .ref 15), (1, .int a1), (2, .int a2)] [] M := by
  refine e_aload_n (pc := 0) g 0 dX4_mustStayOff_0 rfl ?_
  refine e_iload_n (pc := 1) g 1 dX4_mustStayOff_1 rfl ?_
  obtain ⟨r3, M1, f2, h⟩ := h
  refine e_callV (As := [.int a1]) (S := []) (pc := 2) g ok_X4_isOn ml_X4_41 sh_15 ⟨_, rfl, rfl⟩ f2 (by omega) rfl (Nat.le_of_ble_eq_true rfl) dX4_mustStayOff_2 ?_
  refine e_to (S' := [.int r3]) rfl rfl rfl ?_
  refine e_if_ne (pc := 5) g 21 dX4_mustStayOff_5 (by decide) (fun c4 => ?_) (fun c4 => ?_)
  · have h := h.1 c4
    refine e_iconst (pc := 21) g 0 dX4_mustStayOff_21 kc_0 ?_
    exact e_zret (pc := 22) g gr rfl (by decide) dX4_mustStayOff_22 h
  · have h := h.2 c4
    refine e_aload_n (pc := 8) g 0 dX4_mustStayOff_8 rfl ?_
    refine e_iload_n (pc := 9) g 1 dX4_mustStayOff_9 rfl ?_
    refine e_iload_n (pc := 10) g 2 dX4_mustStayOff_10 rfl ?_
    obtain ⟨r7, M5, f6, h⟩ := h
    refine e_callV (As := [.int a1, .int a2]) (S := []) (pc := 11) g ok_X4_pausesAt ml_X4_45 sh_15 ⟨_, rfl, rfl⟩ f6 (by omega) rfl (Nat.le_of_ble_eq_true rfl) dX4_mustStayOff_11 ?_
    refine e_to (S' := [.int r7]) rfl rfl rfl ?_
    have hj : Ev G 22 [(0, .ref 15), (1, .int a1), (2, .int a2)] [.int (if r7 = (0 : Int32) then 0 else 1)] M5 := by
      obtain ⟨o9, h⟩ := h
      exact e_zret (pc := 22) g gr rfl o9 dX4_mustStayOff_22 h
    refine e_if_eq (pc := 14) g 21 dX4_mustStayOff_14 (by decide) (fun c8 => ?_) (fun c8 => ?_)
    · rw [if_pos c8] at hj
      refine e_iconst (pc := 21) g 0 dX4_mustStayOff_21 kc_0 ?_
      exact hj
    · rw [if_neg c8] at hj
      refine e_iconst (pc := 17) g 1 dX4_mustStayOff_17 kc_1 ?_
      refine e_goto (pc := 18) g 22 dX4_mustStayOff_18 (by decide) ?_
      exact hj
set_option maxHeartbeats 4000000 in
set_option maxRecDepth 100000 in
theorem b_X4_mustRunOn_0 {G : GC} {n : Nat} {r : Option Value} {M' : MM} (g : Good G mX4_mustRunOn n) (gr : GoodR G r M') (hn : 2 ≤ n) (a1 : Int32) (a2 : Int32)   (M : MM) (h : (∃ (r3 : Int32) (M1 : MM), Fn 1 mX4_isOn [.ref 15, .int a1] M (some (.int r3)) M1 ∧ ((r3 = (0 : Int32) → (r = some (.int 0) ∧ M' = M1)) ∧ (¬ (r3 = (0 : Int32)) → (vp_in a1 4) ∧ ((if ((M1.1 19 a1.toNatClampNeg) : Int32) ≤ (a2 - (M1.1 21 a1.toNatClampNeg)) then 0 else 1) = (0 : Int32) ∨ (if ((M1.1 19 a1.toNatClampNeg) : Int32) ≤ (a2 - (M1.1 21 a1.toNatClampNeg)) then 0 else 1) = (1 : Int32)) ∧ (r = some (.int (if ((M1.1 19 a1.toNatClampNeg) : Int32) ≤ (a2 - (M1.1 21 a1.toNatClampNeg)) then 0 else 1)) ∧ M' = M1))))) : Ev G 0 [(0, .ref 15), (1, .int a1), (2, .int a2)] [] M := by
  refine e_aload_n (pc := 0) g 0 dX4_mustRunOn_0 rfl ?_
  refine e_iload_n (pc := 1) g 1 dX4_mustRunOn_1 rfl ?_
  obtain ⟨r3, M1, f2, h⟩ := h
  refine e_callV (As := [.int a1]) (S := []) (pc := 2) g ok_X4_isOn ml_X4_41 sh_15 ⟨_, rfl, rfl⟩ f2 (by omega) rfl (Nat.le_of_ble_eq_true rfl) dX4_mustRunOn_2 ?_
  refine e_to (S' := [.int r3]) rfl rfl rfl ?_
  refine e_if_eq (pc := 5) g 29 dX4_mustRunOn_5 (by decide) (fun c4 => ?_) (fun c4 => ?_)
  · have h := h.1 c4
    refine e_iconst (pc := 29) g 0 dX4_mustRunOn_29 kc_0 ?_
    exact e_zret (pc := 30) g gr rfl (by decide) dX4_mustRunOn_30 h
  · have h := h.2 c4
    refine e_iload_n (pc := 8) g 2 dX4_mustRunOn_8 rfl ?_
    refine e_aload_n (pc := 9) g 0 dX4_mustRunOn_9 rfl ?_
    refine e_getR (pc := 10) g 21 fl_X4_27 sh_15 rfl dX4_mustRunOn_10 ?_
    refine e_iload_n (pc := 13) g 1 dX4_mustRunOn_13 rfl ?_
    obtain ⟨o5, h⟩ := h
    refine e_iald (pc := 14) g sh_21 o5 dX4_mustRunOn_14 ?_
    refine e_isub (pc := 15) g dX4_mustRunOn_15 ?_
    refine e_aload_n (pc := 16) g 0 dX4_mustRunOn_16 rfl ?_
    refine e_getR (pc := 17) g 19 fl_X4_21 sh_15 rfl dX4_mustRunOn_17 ?_
    refine e_iload_n (pc := 20) g 1 dX4_mustRunOn_20 rfl ?_
    refine e_iald (pc := 21) g sh_19 o5 dX4_mustRunOn_21 ?_
    have hj : Ev G 30 [(0, .ref 15), (1, .int a1), (2, .int a2)] [.int (if ((M1.1 19 a1.toNatClampNeg) : Int32) ≤ (a2 - (M1.1 21 a1.toNatClampNeg)) then 0 else 1)] M1 := by
      obtain ⟨o7, h⟩ := h
      exact e_zret (pc := 30) g gr rfl o7 dX4_mustRunOn_30 h
    refine e_icmp_ge (pc := 22) g 29 dX4_mustRunOn_22 (by decide) (fun c6 => ?_) (fun c6 => ?_)
    · rw [if_pos c6] at hj
      refine e_iconst (pc := 29) g 0 dX4_mustRunOn_29 kc_0 ?_
      exact hj
    · rw [if_neg c6] at hj
      refine e_iconst (pc := 25) g 1 dX4_mustRunOn_25 kc_1 ?_
      refine e_goto (pc := 26) g 30 dX4_mustRunOn_26 (by decide) ?_
      exact hj
/-- at the cut 19 of X4_put -/
def At_X4_put_19 (G : GC)  (v1 : Int32) (v2 : Int32) (v3 : Int32)  (M : MM) : Prop := Ev G 19 [(0, .ref 15), (1, .int v1), (2, .int v2), (3, .int v3)] [] M
set_option maxHeartbeats 4000000 in
set_option maxRecDepth 100000 in
theorem b_X4_put_0 {G : GC} {n : Nat} {r : Option Value} {M' : MM} (g : Good G mX4_put n) (gr : GoodR G r M') (hn : 2 ≤ n) (a1 : Int32) (a2 : Int32) (a3 : Int32)   (M : MM) (h : ((a2 = (0 : Int32) → At_X4_put_19 G a1 a2 a3 M) ∧ (¬ (a2 = (0 : Int32)) → (∃ (r4 : Int32) (M2 : MM), Fn 1 mX4_isOn [.ref 15, .int a1] M (some (.int r4)) M2 ∧ ((¬ r4 = (0 : Int32) → At_X4_put_19 G a1 a2 a3 M2) ∧ (r4 = (0 : Int32) → (vp_in a1 4) ∧ (∀ M7 : MM, M7 = ui M2 21 a1.toNatClampNeg a3 → At_X4_put_19 G a1 a2 a3 M7))))))) : Ev G 0 [(0, .ref 15), (1, .int a1), (2, .int a2), (3, .int a3)] [] M := by
  refine e_iload_n (pc := 0) g 2 dX4_put_0 rfl ?_
  refine e_if_eq (pc := 1) g 19 dX4_put_1 (by decide) (fun c1 => ?_) (fun c1 => ?_)
  · have h := h.1 c1
    exact h
  · have h := h.2 c1
    refine e_aload_n (pc := 4) g 0 dX4_put_4 rfl ?_
    refine e_iload_n (pc := 5) g 1 dX4_put_5 rfl ?_
    obtain ⟨r4, M2, f3, h⟩ := h
    refine e_callV (As := [.int a1]) (S := []) (pc := 6) g ok_X4_isOn ml_X4_41 sh_15 ⟨_, rfl, rfl⟩ f3 (by omega) rfl (Nat.le_of_ble_eq_true rfl) dX4_put_6 ?_
    refine e_to (S' := [.int r4]) rfl rfl rfl ?_
    refine e_if_ne (pc := 9) g 19 dX4_put_9 (by decide) (fun c5 => ?_) (fun c5 => ?_)
    · have h := h.1 c5
      exact h
    · have h := h.2 c5
      refine e_aload_n (pc := 12) g 0 dX4_put_12 rfl ?_
      refine e_getR (pc := 13) g 21 fl_X4_27 sh_15 rfl dX4_put_13 ?_
      refine e_iload_n (pc := 16) g 1 dX4_put_16 rfl ?_
      refine e_iload_n (pc := 17) g 3 dX4_put_17 rfl ?_
      obtain ⟨o6, h⟩ := h
      refine e_iast (pc := 18) g sh_21 o6 dX4_put_18 ?_
      obtain ⟨M7, qM7⟩ : ∃ y : MM, y = ui M2 21 a1.toNatClampNeg a3 := ⟨_, rfl⟩
      have h := h M7 qM7
      refine e_to (M' := M7) rfl rfl (by rw [qM7]) ?_
      exact h
set_option maxHeartbeats 4000000 in
set_option maxRecDepth 100000 in
theorem b_X4_put_19 {G : GC} {n : Nat} {r : Option Value} {M' : MM} (g : Good G mX4_put n) (gr : GoodR G r M') (hn : 2 ≤ n)  (v1 : Int32) (v2 : Int32) (v3 : Int32)  (M : MM) (h : ((v2 = (0 : Int32) → (∀ M2 : MM, M2 = ui M 15 6 ((M.1 15 6) &&& ((1 <<< (v1 &&& 31)) ^^^ (-1))) → (r = none ∧ M' = M2))) ∧ (¬ (v2 = (0 : Int32)) → (∀ M3 : MM, M3 = ui M 15 6 ((M.1 15 6) ||| (1 <<< (v1 &&& 31))) → (r = none ∧ M' = M3))))) : At_X4_put_19 G v1 v2 v3 M := by
  unfold At_X4_put_19
  refine e_aload_n (pc := 19) g 0 dX4_put_19 rfl ?_
  refine e_iload_n (pc := 20) g 2 dX4_put_20 rfl ?_
  refine e_if_eq (pc := 21) g 35 dX4_put_21 (by decide) (fun c1 => ?_) (fun c1 => ?_)
  · have h := h.1 c1
    refine e_aload_n (pc := 35) g 0 dX4_put_35 rfl ?_
    refine e_getI (pc := 36) g fl_X4_34 sh_15 rfl dX4_put_36 ?_
    refine e_iconst (pc := 39) g 1 dX4_put_39 kc_1 ?_
    refine e_iload_n (pc := 40) g 1 dX4_put_40 rfl ?_
    refine e_ishl (pc := 41) g dX4_put_41 ?_
    refine e_iconst (pc := 42) g (-1) dX4_put_42 kc_m1 ?_
    refine e_ixor (pc := 43) g dX4_put_43 ?_
    refine e_iand (pc := 44) g dX4_put_44 ?_
    refine e_putI (pc := 45) g fw_X4_34 sh_15 rfl dX4_put_45 ?_
    obtain ⟨M2, qM2⟩ : ∃ y : MM, y = ui M 15 6 ((M.1 15 6) &&& ((1 <<< (v1 &&& 31)) ^^^ (-1))) := ⟨_, rfl⟩
    have h := h M2 qM2
    refine e_to (M' := M2) rfl rfl (by rw [qM2]) ?_
    exact e_vret (pc := 48) g gr rfl dX4_put_48 h
  · have h := h.2 c1
    refine e_aload_n (pc := 24) g 0 dX4_put_24 rfl ?_
    refine e_getI (pc := 25) g fl_X4_34 sh_15 rfl dX4_put_25 ?_
    refine e_iconst (pc := 28) g 1 dX4_put_28 kc_1 ?_
    refine e_iload_n (pc := 29) g 1 dX4_put_29 rfl ?_
    refine e_ishl (pc := 30) g dX4_put_30 ?_
    refine e_ior (pc := 31) g dX4_put_31 ?_
    refine e_goto (pc := 32) g 45 dX4_put_32 (by decide) ?_
    refine e_putI (pc := 45) g fw_X4_34 sh_15 rfl dX4_put_45 ?_
    obtain ⟨M3, qM3⟩ : ∃ y : MM, y = ui M 15 6 ((M.1 15 6) ||| (1 <<< (v1 &&& 31))) := ⟨_, rfl⟩
    have h := h M3 qM3
    refine e_to (M' := M3) rfl rfl (by rw [qM3]) ?_
    exact e_vret (pc := 48) g gr rfl dX4_put_48 h
/-- at the cut 5 of X4_awake -/
def At_X4_awake_5 (G : GC)  (v1 : Int32) (v2 : Int32) (v3 : Int32) (v4 : Int32)  (M : MM) : Prop := Ev G 5 [(0, .ref 15), (1, .int v1), (2, .int v2), (3, .int v3), (4, .int v4)] [] M
set_option maxHeartbeats 4000000 in
set_option maxRecDepth 100000 in
theorem b_X4_awake_0 {G : GC} {n : Nat} {r : Option Value} {M' : MM} (g : Good G mX4_awake n) (gr : GoodR G r M') (hn : 4 ≤ n) (a1 : Int32) (a2 : Int32)   (M : MM) (h : At_X4_awake_5 G a1 a2 a1 0 M) : Ev G 0 [(0, .ref 15), (1, .int a1), (2, .int a2)] [] M := by
  refine e_iload_n (pc := 0) g 1 dX4_awake_0 rfl ?_
  refine e_istore_n (pc := 1) g [(0, .ref 15), (1, .int a1), (2, .int a2), (3, .int a1)] dX4_awake_1 (by decide) rfl ?_
  refine e_iconst (pc := 2) g 0 dX4_awake_2 kc_0 ?_
  refine e_istore (pc := 3) g [(0, .ref 15), (1, .int a1), (2, .int a2), (3, .int a1), (4, .int 0)] dX4_awake_3 (by decide) rfl ?_
  exact h
set_option maxHeartbeats 4000000 in
set_option maxRecDepth 100000 in
theorem b_X4_awake_5 {G : GC} {n : Nat} {r : Option Value} {M' : MM} (g : Good G mX4_awake n) (gr : GoodR G r M') (hn : 4 ≤ n)  (v1 : Int32) (v2 : Int32) (v3 : Int32) (v4 : Int32)  (M : MM) (h : ((((M.1 15 7) : Int32) ≤ v4 → (r = some (.int v3) ∧ M' = M)) ∧ (¬ (((M.1 15 7) : Int32) ≤ v4) → (∃ (r4 : Int32) (M2 : MM), Fn 3 mX4_pausesAt [.ref 15, .int v4, .int v2] M (some (.int r4)) M2 ∧ ((r4 = (0 : Int32) → (∀ x6 : Int32, x6 = v4 + 1 → At_X4_awake_5 G v1 v2 v3 x6 M2)) ∧ (¬ (r4 = (0 : Int32)) → (∀ x7 : Int32, x7 = (v3 &&& ((1 <<< (v4 &&& 31)) ^^^ (-1))) → (∀ x8 : Int32, x8 = v4 + 1 → At_X4_awake_5 G v1 v2 x7 x8 M2)))))))) : At_X4_awake_5 G v1 v2 v3 v4 M := by
  unfold At_X4_awake_5
  refine e_iload (pc := 5) g 4 dX4_awake_5 rfl ?_
  refine e_aload_n (pc := 7) g 0 dX4_awake_7 rfl ?_
  refine e_getI (pc := 8) g fl_X4_30 sh_15 rfl dX4_awake_8 ?_
  refine e_icmp_ge (pc := 11) g 39 dX4_awake_11 (by decide) (fun c1 => ?_) (fun c1 => ?_)
  · have h := h.1 c1
    refine e_iload_n (pc := 39) g 3 dX4_awake_39 rfl ?_
    exact e_iret (pc := 40) g gr rfl dX4_awake_40 h
  · have h := h.2 c1
    refine e_aload_n (pc := 14) g 0 dX4_awake_14 rfl ?_
    refine e_iload (pc := 15) g 4 dX4_awake_15 rfl ?_
    refine e_iload_n (pc := 17) g 2 dX4_awake_17 rfl ?_
    obtain ⟨r4, M2, f3, h⟩ := h
    refine e_callV (As := [.int v4, .int v2]) (S := []) (pc := 18) g ok_X4_pausesAt ml_X4_45 sh_15 ⟨_, rfl, rfl⟩ f3 (by omega) rfl (Nat.le_of_ble_eq_true rfl) dX4_awake_18 ?_
    refine e_to (S' := [.int r4]) rfl rfl rfl ?_
    refine e_if_eq (pc := 21) g 33 dX4_awake_21 (by decide) (fun c5 => ?_) (fun c5 => ?_)
    · have h := h.1 c5
      obtain ⟨x6, qx6⟩ : ∃ y : Int32, y = v4 + 1 := ⟨_, rfl⟩
      have h := h x6 qx6
      refine e_iinc (pc := 33) g 4 x6 [(0, .ref 15), (1, .int v1), (2, .int v2), (3, .int v3), (4, .int x6)] dX4_awake_33 rfl (by rw [qx6]; rfl) (by decide) rfl ?_
      refine e_goto (pc := 36) g 5 dX4_awake_36 (by decide) ?_
      exact h
    · have h := h.2 c5
      refine e_iload_n (pc := 24) g 3 dX4_awake_24 rfl ?_
      refine e_iconst (pc := 25) g 1 dX4_awake_25 kc_1 ?_
      refine e_iload (pc := 26) g 4 dX4_awake_26 rfl ?_
      refine e_ishl (pc := 28) g dX4_awake_28 ?_
      refine e_iconst (pc := 29) g (-1) dX4_awake_29 kc_m1 ?_
      refine e_ixor (pc := 30) g dX4_awake_30 ?_
      refine e_iand (pc := 31) g dX4_awake_31 ?_
      obtain ⟨x7, qx7⟩ : ∃ y : Int32, y = (v3 &&& ((1 <<< (v4 &&& 31)) ^^^ (-1))) := ⟨_, rfl⟩
      have h := h x7 qx7
      refine e_to (S' := [.int x7]) rfl (by rw [qx7]) rfl ?_
      refine e_istore_n (pc := 32) g [(0, .ref 15), (1, .int v1), (2, .int v2), (3, .int x7), (4, .int v4)] dX4_awake_32 (by decide) rfl ?_
      obtain ⟨x8, qx8⟩ : ∃ y : Int32, y = v4 + 1 := ⟨_, rfl⟩
      have h := h x8 qx8
      refine e_iinc (pc := 33) g 4 x8 [(0, .ref 15), (1, .int v1), (2, .int v2), (3, .int x7), (4, .int x8)] dX4_awake_33 rfl (by rw [qx8]; rfl) (by decide) rfl ?_
      refine e_goto (pc := 36) g 5 dX4_awake_36 (by decide) ?_
      exact h
set_option maxHeartbeats 4000000 in
set_option maxRecDepth 100000 in
theorem b_X4_inPlans_0 {G : GC} {n : Nat} {r : Option Value} {M' : MM} (g : Good G mX4_inPlans n) (gr : GoodR G r M') (hn : 2 ≤ n)    (M : MM) (h : (∃ (r3 : Int32) (M1 : MM), Fn 1 mJ9_min_7cf53 [.int (M.1 15 7), .int 2] M (some (.int r3)) M1 ∧ (r = some (.int r3) ∧ M' = M1))) : Ev G 0 [(0, .ref 15)] [] M := by
  refine e_aload_n (pc := 0) g 0 dX4_inPlans_0 rfl ?_
  refine e_getI (pc := 1) g fl_X4_30 sh_15 rfl dX4_inPlans_1 ?_
  refine e_iconst (pc := 4) g 2 dX4_inPlans_4 kc_2 ?_
  obtain ⟨r3, M1, f2, h⟩ := h
  refine e_callS (As := [.int (M.1 15 7), .int 2]) (S := []) (pc := 5) g ok_J9_min_7cf53 ml_X4_49 f2 (by omega) rfl (Nat.le_of_ble_eq_true rfl) dX4_inPlans_5 ?_
  refine e_to (S' := [.int r3]) rfl rfl rfl ?_
  exact e_iret (pc := 8) g gr rfl dX4_inPlans_8 h
set_option maxHeartbeats 4000000 in
set_option maxRecDepth 100000 in
theorem b_X5_clear_0 {G : GC} {n : Nat} {r : Option Value} {M' : MM} (g : Good G mX5_clear n) (gr : GoodR G r M') (hn : 2 ≤ n) (a1 : Int32) (a2 : Int32) (a3 : Int32)   (M : MM) (h : (vp_in a1 4) ∧ (shp (66 + a1.toNatClampNeg) = (1, 0, 60, [])) ∧ (∃ M3 : MM, Fn 1 mJ7_fill_53178 [.ref (66 + a1.toNatClampNeg), .int 0] M none M3 ∧ (∀ M5 : MM, M5 = ui M3 70 a1.toNatClampNeg a2 → (∀ M6 : MM, M6 = ui M5 71 a1.toNatClampNeg a3 → (r = none ∧ M' = M6))))) : Ev G 0 [(0, .ref 64), (1, .int a1), (2, .int a2), (3, .int a3)] [] M := by
  refine e_aload_n (pc := 0) g 0 dX5_clear_0 rfl ?_
  refine e_getR (pc := 1) g 65 fl_X5_11 sh_64 rfl dX5_clear_1 ?_
  refine e_iload_n (pc := 4) g 1 dX5_clear_4 rfl ?_
  obtain ⟨o1, h⟩ := h
  refine e_aald (pc := 5) g sh_65 o1 dX5_clear_5 ?_
  obtain ⟨o2, h⟩ := h
  refine e_iconst (pc := 6) g 0 dX5_clear_6 kc_0 ?_
  obtain ⟨M3, f4, h⟩ := h
  refine e_callS (As := [.ref (66 + a1.toNatClampNeg), .int 0]) (S := []) (pc := 7) g ok_J7_fill_53178 ml_X5_23 f4 (by omega) rfl (Nat.le_of_ble_eq_true rfl) dX5_clear_7 ?_
  refine e_to (S' := []) rfl rfl rfl ?_
  refine e_aload_n (pc := 10) g 0 dX5_clear_10 rfl ?_
  refine e_getR (pc := 11) g 70 fl_X5_16 sh_64 rfl dX5_clear_11 ?_
  refine e_iload_n (pc := 14) g 1 dX5_clear_14 rfl ?_
  refine e_iload_n (pc := 15) g 2 dX5_clear_15 rfl ?_
  refine e_iast (pc := 16) g sh_70 o1 dX5_clear_16 ?_
  obtain ⟨M5, qM5⟩ : ∃ y : MM, y = ui M3 70 a1.toNatClampNeg a2 := ⟨_, rfl⟩
  have h := h M5 qM5
  refine e_to (M' := M5) rfl rfl (by rw [qM5]) ?_
  refine e_aload_n (pc := 17) g 0 dX5_clear_17 rfl ?_
  refine e_getR (pc := 18) g 71 fl_X5_20 sh_64 rfl dX5_clear_18 ?_
  refine e_iload_n (pc := 21) g 1 dX5_clear_21 rfl ?_
  refine e_iload_n (pc := 22) g 3 dX5_clear_22 rfl ?_
  refine e_iast (pc := 23) g sh_71 o1 dX5_clear_23 ?_
  obtain ⟨M6, qM6⟩ : ∃ y : MM, y = ui M5 71 a1.toNatClampNeg a3 := ⟨_, rfl⟩
  have h := h M6 qM6
  refine e_to (M' := M6) rfl rfl (by rw [qM6]) ?_
  exact e_vret (pc := 24) g gr rfl dX5_clear_24 h
set_option maxHeartbeats 4000000 in
set_option maxRecDepth 100000 in
theorem b_X5_isNothing_0 {G : GC} {n : Nat} {r : Option Value} {M' : MM} (g : Good G mX5_isNothing n) (gr : GoodR G r M') (hn : 1 ≤ n) (a1 : Int32)   (M : MM) (h : (vp_in a1 4) ∧ ((if (M.1 71 a1.toNatClampNeg) = ((-1) : Int32) then 1 else 0) = (0 : Int32) ∨ (if (M.1 71 a1.toNatClampNeg) = ((-1) : Int32) then 1 else 0) = (1 : Int32)) ∧ (r = some (.int (if (M.1 71 a1.toNatClampNeg) = ((-1) : Int32) then 1 else 0)) ∧ M' = M)) : Ev G 0 [(0, .ref 64), (1, .int a1)] [] M := by
  refine e_aload_n (pc := 0) g 0 dX5_isNothing_0 rfl ?_
  refine e_getR (pc := 1) g 71 fl_X5_20 sh_64 rfl dX5_isNothing_1 ?_
  refine e_iload_n (pc := 4) g 1 dX5_isNothing_4 rfl ?_
  obtain ⟨o1, h⟩ := h
  refine e_iald (pc := 5) g sh_71 o1 dX5_isNothing_5 ?_
  refine e_iconst (pc := 6) g (-1) dX5_isNothing_6 kc_m1 ?_
  have hj : Ev G 15 [(0, .ref 64), (1, .int a1)] [.int (if (M.1 71 a1.toNatClampNeg) = ((-1) : Int32) then 1 else 0)] M := by
    obtain ⟨o3, h⟩ := h
    exact e_zret (pc := 15) g gr rfl o3 dX5_isNothing_15 h
  refine e_icmp_ne (pc := 7) g 14 dX5_isNothing_7 (by decide) (fun c2 => ?_) (fun c2 => ?_)
  · rw [if_neg c2] at hj
    refine e_iconst (pc := 14) g 0 dX5_isNothing_14 kc_0 ?_
    exact hj
  · rw [if_pos c2] at hj
    refine e_iconst (pc := 10) g 1 dX5_isNothing_10 kc_1 ?_
    refine e_goto (pc := 11) g 15 dX5_isNothing_11 (by decide) ?_
    exact hj
set_option maxHeartbeats 4000000 in
set_option maxRecDepth 100000 in
theorem b_X5_hasCell_0 {G : GC} {n : Nat} {r : Option Value} {M' : MM} (g : Good G mX5_hasCell n) (gr : GoodR G r M') (hn : 1 ≤ n) (a1 : Int32) (a2 : Int32)   (M : MM) (h : ((a2 < (0 : Int32) → (r = some (.int 0) ∧ M' = M)) ∧ (¬ (a2 < (0 : Int32)) → (vp_in a1 4) ∧ ((if ((M.1 71 a1.toNatClampNeg) : Int32) ≤ a2 then 0 else 1) = (0 : Int32) ∨ (if ((M.1 71 a1.toNatClampNeg) : Int32) ≤ a2 then 0 else 1) = (1 : Int32)) ∧ (r = some (.int (if ((M.1 71 a1.toNatClampNeg) : Int32) ≤ a2 then 0 else 1)) ∧ M' = M)))) : Ev G 0 [(0, .ref 64), (1, .int a1), (2, .int a2)] [] M := by
  refine e_iload_n (pc := 0) g 2 dX5_hasCell_0 rfl ?_
  refine e_if_lt (pc := 1) g 18 dX5_hasCell_1 (by decide) (fun c1 => ?_) (fun c1 => ?_)
  · have h := h.1 c1
    refine e_iconst (pc := 18) g 0 dX5_hasCell_18 kc_0 ?_
    exact e_zret (pc := 19) g gr rfl (by decide) dX5_hasCell_19 h
  · have h := h.2 c1
    refine e_iload_n (pc := 4) g 2 dX5_hasCell_4 rfl ?_
    refine e_aload_n (pc := 5) g 0 dX5_hasCell_5 rfl ?_
    refine e_getR (pc := 6) g 71 fl_X5_20 sh_64 rfl dX5_hasCell_6 ?_
    refine e_iload_n (pc := 9) g 1 dX5_hasCell_9 rfl ?_
    obtain ⟨o2, h⟩ := h
    refine e_iald (pc := 10) g sh_71 o2 dX5_hasCell_10 ?_
    have hj : Ev G 19 [(0, .ref 64), (1, .int a1), (2, .int a2)] [.int (if ((M.1 71 a1.toNatClampNeg) : Int32) ≤ a2 then 0 else 1)] M := by
      obtain ⟨o4, h⟩ := h
      exact e_zret (pc := 19) g gr rfl o4 dX5_hasCell_19 h
    refine e_icmp_ge (pc := 11) g 18 dX5_hasCell_11 (by decide) (fun c3 => ?_) (fun c3 => ?_)
    · rw [if_pos c3] at hj
      refine e_iconst (pc := 18) g 0 dX5_hasCell_18 kc_0 ?_
      exact hj
    · rw [if_neg c3] at hj
      refine e_iconst (pc := 14) g 1 dX5_hasCell_14 kc_1 ?_
      refine e_goto (pc := 15) g 19 dX5_hasCell_15 (by decide) ?_
      exact hj
set_option maxHeartbeats 4000000 in
set_option maxRecDepth 100000 in
theorem b_X5_put_0 {G : GC} {n : Nat} {r : Option Value} {M' : MM} (g : Good G mX5_put n) (gr : GoodR G r M') (hn : 1 ≤ n) (a1 : Int32) (a2 : Int32) (a3 : Int32)   (M : MM) (h : (vp_in a1 4) ∧ (shp (66 + a1.toNatClampNeg) = (1, 0, 60, [])) ∧ ((¬ (M.1 70 a1.toNatClampNeg) = (0 : Int32) → ((¬ (M.1 70 a1.toNatClampNeg) = (1 : Int32) → (vp_in a2 60) ∧ (∀ M6 : MM, M6 = ui M (66 + a1.toNatClampNeg) a2.toNatClampNeg a3 → (r = none ∧ M' = M6))) ∧ ((M.1 70 a1.toNatClampNeg) = (1 : Int32) → (vp_in a2 60) ∧ (∀ M8 : MM, M8 = ui M (66 + a1.toNatClampNeg) a2.toNatClampNeg (a3.toInt16.toInt32) → (r = none ∧ M' = M8))))) ∧ ((M.1 70 a1.toNatClampNeg) = (0 : Int32) → (vp_in a2 60) ∧ (∀ M10 : MM, M10 = ui M (66 + a1.toNatClampNeg) a2.toNatClampNeg (a3.toInt8.toInt32) → (r = none ∧ M' = M10))))) : Ev G 0 [(0, .ref 64), (1, .int a1), (2, .int a2), (3, .int a3)] [] M := by
  refine e_aload_n (pc := 0) g 0 dX5_put_0 rfl ?_
  refine e_getR (pc := 1) g 65 fl_X5_11 sh_64 rfl dX5_put_1 ?_
  refine e_iload_n (pc := 4) g 1 dX5_put_4 rfl ?_
  obtain ⟨o1, h⟩ := h
  refine e_aald (pc := 5) g sh_65 o1 dX5_put_5 ?_
  obtain ⟨o2, h⟩ := h
  refine e_iload_n (pc := 6) g 2 dX5_put_6 rfl ?_
  refine e_aload_n (pc := 7) g 0 dX5_put_7 rfl ?_
  refine e_getR (pc := 8) g 70 fl_X5_16 sh_64 rfl dX5_put_8 ?_
  refine e_iload_n (pc := 11) g 1 dX5_put_11 rfl ?_
  refine e_iald (pc := 12) g sh_70 o1 dX5_put_12 ?_
  refine e_if_ne (pc := 13) g 21 dX5_put_13 (by decide) (fun c3 => ?_) (fun c3 => ?_)
  · have h := h.1 c3
    refine e_aload_n (pc := 21) g 0 dX5_put_21 rfl ?_
    refine e_getR (pc := 22) g 70 fl_X5_16 sh_64 rfl dX5_put_22 ?_
    refine e_iload_n (pc := 25) g 1 dX5_put_25 rfl ?_
    refine e_iald (pc := 26) g sh_70 o1 dX5_put_26 ?_
    refine e_iconst (pc := 27) g 1 dX5_put_27 kc_1 ?_
    refine e_icmp_ne (pc := 28) g 36 dX5_put_28 (by decide) (fun c4 => ?_) (fun c4 => ?_)
    · have h := h.1 c4
      refine e_iload_n (pc := 36) g 3 dX5_put_36 rfl ?_
      obtain ⟨o5, h⟩ := h
      refine e_iast (pc := 37) g o2 o5 dX5_put_37 ?_
      obtain ⟨M6, qM6⟩ : ∃ y : MM, y = ui M (66 + a1.toNatClampNeg) a2.toNatClampNeg a3 := ⟨_, rfl⟩
      have h := h M6 qM6
      refine e_to (M' := M6) rfl rfl (by rw [qM6]) ?_
      exact e_vret (pc := 38) g gr rfl dX5_put_38 h
    · have h := h.2 c4
      refine e_iload_n (pc := 31) g 3 dX5_put_31 rfl ?_
      refine e_i2s (pc := 32) g dX5_put_32 ?_
      refine e_goto (pc := 33) g 37 dX5_put_33 (by decide) ?_
      obtain ⟨o7, h⟩ := h
      refine e_iast (pc := 37) g o2 o7 dX5_put_37 ?_
      obtain ⟨M8, qM8⟩ : ∃ y : MM, y = ui M (66 + a1.toNatClampNeg) a2.toNatClampNeg (a3.toInt16.toInt32) := ⟨_, rfl⟩
      have h := h M8 qM8
      refine e_to (M' := M8) rfl rfl (by rw [qM8]) ?_
      exact e_vret (pc := 38) g gr rfl dX5_put_38 h
  · have h := h.2 c3
    refine e_iload_n (pc := 16) g 3 dX5_put_16 rfl ?_
    refine e_i2b (pc := 17) g dX5_put_17 ?_
    refine e_goto (pc := 18) g 37 dX5_put_18 (by decide) ?_
    obtain ⟨o9, h⟩ := h
    refine e_iast (pc := 37) g o2 o9 dX5_put_37 ?_
    obtain ⟨M10, qM10⟩ : ∃ y : MM, y = ui M (66 + a1.toNatClampNeg) a2.toNatClampNeg (a3.toInt8.toInt32) := ⟨_, rfl⟩
    have h := h M10 qM10
    refine e_to (M' := M10) rfl rfl (by rw [qM10]) ?_
    exact e_vret (pc := 38) g gr rfl dX5_put_38 h
set_option maxHeartbeats 4000000 in
set_option maxRecDepth 100000 in
theorem b_X5_faultAs_0 {G : GC} {n : Nat} {r : Option Value} {M' : MM} (g : Good G mX5_faultAs n) (gr : GoodR G r M') (hn : 2 ≤ n) (a1 : Int32) (a2 : Int32)   (M : MM) (h : (∃ (r3 : Int32) (M1 : MM), Fn 1 mX5_isNothing [.ref 64, .int a1] M (some (.int r3)) M1 ∧ ((r3 = (0 : Int32) → (vp_in a1 4) ∧ (r = some (.int (if (M1.1 70 a1.toNatClampNeg) = (a2 : Int32) then 0 else 3)) ∧ M' = M1)) ∧ (¬ (r3 = (0 : Int32)) → (r = some (.int 1) ∧ M' = M1))))) : Ev G 0 [(0, .ref 64), (1, .int a1), (2, .int a2)] [] M := by
  refine e_aload_n (pc := 0) g 0 dX5_faultAs_0 rfl ?_
  refine e_iload_n (pc := 1) g 1 dX5_faultAs_1 rfl ?_
  obtain ⟨r3, M1, f2, h⟩ := h
  refine e_callV (As := [.int a1]) (S := []) (pc := 2) g ok_X5_isNothing ml_X5_29 sh_64 ⟨_, rfl, rfl⟩ f2 (by omega) rfl (Nat.le_of_ble_eq_true rfl) dX5_faultAs_2 ?_
  refine e_to (S' := [.int r3]) rfl rfl rfl ?_
  refine e_if_eq (pc := 5) g 12 dX5_faultAs_5 (by decide) (fun c4 => ?_) (fun c4 => ?_)
  · have h := h.1 c4
    refine e_aload_n (pc := 12) g 0 dX5_faultAs_12 rfl ?_
    refine e_getR (pc := 13) g 70 fl_X5_16 sh_64 rfl dX5_faultAs_13 ?_
    refine e_iload_n (pc := 16) g 1 dX5_faultAs_16 rfl ?_
    obtain ⟨o5, h⟩ := h
    refine e_iald (pc := 17) g sh_70 o5 dX5_faultAs_17 ?_
    refine e_iload_n (pc := 18) g 2 dX5_faultAs_18 rfl ?_
    have hj : Ev G 27 [(0, .ref 64), (1, .int a1), (2, .int a2)] [.int (if (M1.1 70 a1.toNatClampNeg) = (a2 : Int32) then 0 else 3)] M1 := by
      exact e_iret (pc := 27) g gr rfl dX5_faultAs_27 h
    refine e_icmp_eq (pc := 19) g 26 dX5_faultAs_19 (by decide) (fun c6 => ?_) (fun c6 => ?_)
    · rw [if_pos c6] at hj
      refine e_iconst (pc := 26) g 0 dX5_faultAs_26 kc_0 ?_
      exact hj
    · rw [if_neg c6] at hj
      refine e_iconst (pc := 22) g 3 dX5_faultAs_22 kc_3 ?_
      refine e_goto (pc := 23) g 27 dX5_faultAs_23 (by decide) ?_
      exact hj
  · have h := h.2 c4
    refine e_iconst (pc := 8) g 1 dX5_faultAs_8 kc_1 ?_
    refine e_goto (pc := 9) g 27 dX5_faultAs_9 (by decide) ?_
    exact e_iret (pc := 27) g gr rfl dX5_faultAs_27 h
set_option maxHeartbeats 4000000 in
set_option maxRecDepth 100000 in
theorem b_X6_add_0 {G : GC} {n : Nat} {r : Option Value} {M' : MM} (g : Good G mX6_add n) (gr : GoodR G r M') (hn : 1 ≤ n) (a1 : Int32) (a2 : Int32)   (M : MM) (h : (((M.1 22 3) < (4 : Int32) → (vp_in (M.1 22 3) 4) ∧ (∀ M3 : MM, M3 = ui M 23 (M.1 22 3).toNatClampNeg a1 → (vp_in (M3.1 22 3) 4) ∧ (∀ M5 : MM, M5 = ui M3 24 (M3.1 22 3).toNatClampNeg a2 → (∀ M6 : MM, M6 = ui M5 22 3 ((M5.1 22 3) + 1) → (r = some (.int (M5.1 22 3)) ∧ M' = M6))))) ∧ (¬ ((M.1 22 3) < (4 : Int32)) → (r = some (.int (-3)) ∧ M' = M)))) : Ev G 0 [(0, .ref 22), (1, .int a1), (2, .int a2)] [] M := by
  refine e_aload_n (pc := 0) g 0 dX6_add_0 rfl ?_
  refine e_getI (pc := 1) g fl_X6_22 sh_22 rfl dX6_add_1 ?_
  refine e_iconst (pc := 4) g 4 dX6_add_4 kc_4 ?_
  refine e_icmp_lt (pc := 5) g 11 dX6_add_5 (by decide) (fun c1 => ?_) (fun c1 => ?_)
  · have h := h.1 c1
    refine e_aload_n (pc := 11) g 0 dX6_add_11 rfl ?_
    refine e_getR (pc := 12) g 23 fl_X6_9 sh_22 rfl dX6_add_12 ?_
    refine e_aload_n (pc := 15) g 0 dX6_add_15 rfl ?_
    refine e_getI (pc := 16) g fl_X6_22 sh_22 rfl dX6_add_16 ?_
    refine e_iload_n (pc := 19) g 1 dX6_add_19 rfl ?_
    obtain ⟨o2, h⟩ := h
    refine e_iast (pc := 20) g sh_23 o2 dX6_add_20 ?_
    obtain ⟨M3, qM3⟩ : ∃ y : MM, y = ui M 23 (M.1 22 3).toNatClampNeg a1 := ⟨_, rfl⟩
    have h := h M3 qM3
    refine e_to (M' := M3) rfl rfl (by rw [qM3]) ?_
    refine e_aload_n (pc := 21) g 0 dX6_add_21 rfl ?_
    refine e_getR (pc := 22) g 24 fl_X6_15 sh_22 rfl dX6_add_22 ?_
    refine e_aload_n (pc := 25) g 0 dX6_add_25 rfl ?_
    refine e_getI (pc := 26) g fl_X6_22 sh_22 rfl dX6_add_26 ?_
    refine e_iload_n (pc := 29) g 2 dX6_add_29 rfl ?_
    obtain ⟨o4, h⟩ := h
    refine e_iast (pc := 30) g sh_24 o4 dX6_add_30 ?_
    obtain ⟨M5, qM5⟩ : ∃ y : MM, y = ui M3 24 (M3.1 22 3).toNatClampNeg a2 := ⟨_, rfl⟩
    have h := h M5 qM5
    refine e_to (M' := M5) rfl rfl (by rw [qM5]) ?_
    refine e_aload_n (pc := 31) g 0 dX6_add_31 rfl ?_
    refine e_dup (pc := 32) g dX6_add_32 rfl ?_
    refine e_getI (pc := 33) g fl_X6_22 sh_22 rfl dX6_add_33 ?_
    refine e_dup_x1 (pc := 36) g dX6_add_36 rfl rfl ?_
    refine e_iconst (pc := 37) g 1 dX6_add_37 kc_1 ?_
    refine e_iadd (pc := 38) g dX6_add_38 ?_
    refine e_putI (pc := 39) g fw_X6_22 sh_22 rfl dX6_add_39 ?_
    obtain ⟨M6, qM6⟩ : ∃ y : MM, y = ui M5 22 3 ((M5.1 22 3) + 1) := ⟨_, rfl⟩
    have h := h M6 qM6
    refine e_to (M' := M6) rfl rfl (by rw [qM6]) ?_
    exact e_iret (pc := 42) g gr rfl dX6_add_42 h
  · have h := h.2 c1
    refine e_bipush (pc := 8) g (-3) dX6_add_8 kb_m3 ?_
    exact e_iret (pc := 10) g gr rfl dX6_add_10 h
set_option maxHeartbeats 4000000 in
set_option maxRecDepth 100000 in
theorem b_X6_has_0 {G : GC} {n : Nat} {r : Option Value} {M' : MM} (g : Good G mX6_has n) (gr : GoodR G r M') (hn : 1 ≤ n) (a1 : Int32)   (M : MM) (h : ((if a1 < (0 : Int32) then 0 else (if ((M.1 22 3) : Int32) ≤ a1 then 0 else 1)) = (0 : Int32) ∨ (if a1 < (0 : Int32) then 0 else (if ((M.1 22 3) : Int32) ≤ a1 then 0 else 1)) = (1 : Int32)) ∧ (r = some (.int (if a1 < (0 : Int32) then 0 else (if ((M.1 22 3) : Int32) ≤ a1 then 0 else 1))) ∧ M' = M)) : Ev G 0 [(0, .ref 22), (1, .int a1)] [] M := by
  refine e_iload_n (pc := 0) g 1 dX6_has_0 rfl ?_
  have hj : Ev G 17 [(0, .ref 22), (1, .int a1)] [.int (if a1 < (0 : Int32) then 0 else (if ((M.1 22 3) : Int32) ≤ a1 then 0 else 1))] M := by
    obtain ⟨o3, h⟩ := h
    exact e_zret (pc := 17) g gr rfl o3 dX6_has_17 h
  refine e_if_lt (pc := 1) g 16 dX6_has_1 (by decide) (fun c1 => ?_) (fun c1 => ?_)
  · rw [if_pos c1] at hj
    refine e_iconst (pc := 16) g 0 dX6_has_16 kc_0 ?_
    exact hj
  · rw [if_neg c1] at hj
    refine e_iload_n (pc := 4) g 1 dX6_has_4 rfl ?_
    refine e_aload_n (pc := 5) g 0 dX6_has_5 rfl ?_
    refine e_getI (pc := 6) g fl_X6_22 sh_22 rfl dX6_has_6 ?_
    refine e_icmp_ge (pc := 9) g 16 dX6_has_9 (by decide) (fun c2 => ?_) (fun c2 => ?_)
    · rw [if_pos c2] at hj
      refine e_iconst (pc := 16) g 0 dX6_has_16 kc_0 ?_
      exact hj
    · rw [if_neg c2] at hj
      refine e_iconst (pc := 12) g 1 dX6_has_12 kc_1 ?_
      refine e_goto (pc := 13) g 17 dX6_has_13 (by decide) ?_
      exact hj
set_option maxHeartbeats 4000000 in
set_option maxRecDepth 100000 in
theorem b_X7_add_0 {G : GC} {n : Nat} {r : Option Value} {M' : MM} (g : Good G mX7_add n) (gr : GoodR G r M') (hn : 1 ≤ n) (a1 : Int32) (a2 : Int32) (a3 : Int32) (a4 : Int32)   (M : MM) (h : (((M.1 10 4) < (8 : Int32) → (vp_in (M.1 10 4) 8) ∧ (∀ M3 : MM, M3 = ui M 11 (M.1 10 4).toNatClampNeg a1 → (vp_in (M3.1 10 4) 8) ∧ (∀ M5 : MM, M5 = ui M3 12 (M3.1 10 4).toNatClampNeg a2 → (vp_in (M5.1 10 4) 8) ∧ (∀ M7 : MM, M7 = ui M5 13 (M5.1 10 4).toNatClampNeg a3 → (vp_in (M7.1 10 4) 8) ∧ (∀ M9 : MM, M9 = ui M7 14 (M7.1 10 4).toNatClampNeg a4 → (∀ M10 : MM, M10 = ui M9 10 4 ((M9.1 10 4) + 1) → (r = some (.int (M9.1 10 4)) ∧ M' = M10))))))) ∧ (¬ ((M.1 10 4) < (8 : Int32)) → (r = some (.int (-3)) ∧ M' = M)))) : Ev G 0 [(0, .ref 10), (1, .int a1), (2, .int a2), (3, .int a3), (4, .int a4)] [] M := by
  refine e_aload_n (pc := 0) g 0 dX7_add_0 rfl ?_
  refine e_getI (pc := 1) g fl_X7_24 sh_10 rfl dX7_add_1 ?_
  refine e_bipush (pc := 4) g 8 dX7_add_4 kb_8 ?_
  refine e_icmp_lt (pc := 6) g 12 dX7_add_6 (by decide) (fun c1 => ?_) (fun c1 => ?_)
  · have h := h.1 c1
    refine e_aload_n (pc := 12) g 0 dX7_add_12 rfl ?_
    refine e_getR (pc := 13) g 11 fl_X7_9 sh_10 rfl dX7_add_13 ?_
    refine e_aload_n (pc := 16) g 0 dX7_add_16 rfl ?_
    refine e_getI (pc := 17) g fl_X7_24 sh_10 rfl dX7_add_17 ?_
    refine e_iload_n (pc := 20) g 1 dX7_add_20 rfl ?_
    obtain ⟨o2, h⟩ := h
    refine e_iast (pc := 21) g sh_11 o2 dX7_add_21 ?_
    obtain ⟨M3, qM3⟩ : ∃ y : MM, y = ui M 11 (M.1 10 4).toNatClampNeg a1 := ⟨_, rfl⟩
    have h := h M3 qM3
    refine e_to (M' := M3) rfl rfl (by rw [qM3]) ?_
    refine e_aload_n (pc := 22) g 0 dX7_add_22 rfl ?_
    refine e_getR (pc := 23) g 12 fl_X7_15 sh_10 rfl dX7_add_23 ?_
    refine e_aload_n (pc := 26) g 0 dX7_add_26 rfl ?_
    refine e_getI (pc := 27) g fl_X7_24 sh_10 rfl dX7_add_27 ?_
    refine e_iload_n (pc := 30) g 2 dX7_add_30 rfl ?_
    obtain ⟨o4, h⟩ := h
    refine e_iast (pc := 31) g sh_12 o4 dX7_add_31 ?_
    obtain ⟨M5, qM5⟩ : ∃ y : MM, y = ui M3 12 (M3.1 10 4).toNatClampNeg a2 := ⟨_, rfl⟩
    have h := h M5 qM5
    refine e_to (M' := M5) rfl rfl (by rw [qM5]) ?_
    refine e_aload_n (pc := 32) g 0 dX7_add_32 rfl ?_
    refine e_getR (pc := 33) g 13 fl_X7_18 sh_10 rfl dX7_add_33 ?_
    refine e_aload_n (pc := 36) g 0 dX7_add_36 rfl ?_
    refine e_getI (pc := 37) g fl_X7_24 sh_10 rfl dX7_add_37 ?_
    refine e_iload_n (pc := 40) g 3 dX7_add_40 rfl ?_
    obtain ⟨o6, h⟩ := h
    refine e_iast (pc := 41) g sh_13 o6 dX7_add_41 ?_
    obtain ⟨M7, qM7⟩ : ∃ y : MM, y = ui M5 13 (M5.1 10 4).toNatClampNeg a3 := ⟨_, rfl⟩
    have h := h M7 qM7
    refine e_to (M' := M7) rfl rfl (by rw [qM7]) ?_
    refine e_aload_n (pc := 42) g 0 dX7_add_42 rfl ?_
    refine e_getR (pc := 43) g 14 fl_X7_21 sh_10 rfl dX7_add_43 ?_
    refine e_aload_n (pc := 46) g 0 dX7_add_46 rfl ?_
    refine e_getI (pc := 47) g fl_X7_24 sh_10 rfl dX7_add_47 ?_
    refine e_iload (pc := 50) g 4 dX7_add_50 rfl ?_
    obtain ⟨o8, h⟩ := h
    refine e_iast (pc := 52) g sh_14 o8 dX7_add_52 ?_
    obtain ⟨M9, qM9⟩ : ∃ y : MM, y = ui M7 14 (M7.1 10 4).toNatClampNeg a4 := ⟨_, rfl⟩
    have h := h M9 qM9
    refine e_to (M' := M9) rfl rfl (by rw [qM9]) ?_
    refine e_aload_n (pc := 53) g 0 dX7_add_53 rfl ?_
    refine e_dup (pc := 54) g dX7_add_54 rfl ?_
    refine e_getI (pc := 55) g fl_X7_24 sh_10 rfl dX7_add_55 ?_
    refine e_dup_x1 (pc := 58) g dX7_add_58 rfl rfl ?_
    refine e_iconst (pc := 59) g 1 dX7_add_59 kc_1 ?_
    refine e_iadd (pc := 60) g dX7_add_60 ?_
    refine e_putI (pc := 61) g fw_X7_24 sh_10 rfl dX7_add_61 ?_
    obtain ⟨M10, qM10⟩ : ∃ y : MM, y = ui M9 10 4 ((M9.1 10 4) + 1) := ⟨_, rfl⟩
    have h := h M10 qM10
    refine e_to (M' := M10) rfl rfl (by rw [qM10]) ?_
    exact e_iret (pc := 64) g gr rfl dX7_add_64 h
  · have h := h.2 c1
    refine e_bipush (pc := 9) g (-3) dX7_add_9 kb_m3 ?_
    exact e_iret (pc := 11) g gr rfl dX7_add_11 h
set_option maxHeartbeats 4000000 in
set_option maxRecDepth 100000 in
theorem b_X7_has_0 {G : GC} {n : Nat} {r : Option Value} {M' : MM} (g : Good G mX7_has n) (gr : GoodR G r M') (hn : 1 ≤ n) (a1 : Int32)   (M : MM) (h : ((if a1 < (0 : Int32) then 0 else (if ((M.1 10 4) : Int32) ≤ a1 then 0 else 1)) = (0 : Int32) ∨ (if a1 < (0 : Int32) then 0 else (if ((M.1 10 4) : Int32) ≤ a1 then 0 else 1)) = (1 : Int32)) ∧ (r = some (.int (if a1 < (0 : Int32) then 0 else (if ((M.1 10 4) : Int32) ≤ a1 then 0 else 1))) ∧ M' = M)) : Ev G 0 [(0, .ref 10), (1, .int a1)] [] M := by
  refine e_iload_n (pc := 0) g 1 dX7_has_0 rfl ?_
  have hj : Ev G 17 [(0, .ref 10), (1, .int a1)] [.int (if a1 < (0 : Int32) then 0 else (if ((M.1 10 4) : Int32) ≤ a1 then 0 else 1))] M := by
    obtain ⟨o3, h⟩ := h
    exact e_zret (pc := 17) g gr rfl o3 dX7_has_17 h
  refine e_if_lt (pc := 1) g 16 dX7_has_1 (by decide) (fun c1 => ?_) (fun c1 => ?_)
  · rw [if_pos c1] at hj
    refine e_iconst (pc := 16) g 0 dX7_has_16 kc_0 ?_
    exact hj
  · rw [if_neg c1] at hj
    refine e_iload_n (pc := 4) g 1 dX7_has_4 rfl ?_
    refine e_aload_n (pc := 5) g 0 dX7_has_5 rfl ?_
    refine e_getI (pc := 6) g fl_X7_24 sh_10 rfl dX7_has_6 ?_
    refine e_icmp_ge (pc := 9) g 16 dX7_has_9 (by decide) (fun c2 => ?_) (fun c2 => ?_)
    · rw [if_pos c2] at hj
      refine e_iconst (pc := 16) g 0 dX7_has_16 kc_0 ?_
      exact hj
    · rw [if_neg c2] at hj
      refine e_iconst (pc := 12) g 1 dX7_has_12 kc_1 ?_
      refine e_goto (pc := 13) g 17 dX7_has_13 (by decide) ?_
      exact hj
set_option maxHeartbeats 4000000 in
set_option maxRecDepth 100000 in
theorem b_X8_add_0 {G : GC} {n : Nat} {r : Option Value} {M' : MM} (g : Good G mX8_add n) (gr : GoodR G r M') (hn : 1 ≤ n)    (M : MM) (h : (((M.1 32 1) < (3 : Int32) → (∀ M2 : MM, M2 = ui M 32 1 ((M.1 32 1) + 1) → (r = some (.int (M.1 32 1)) ∧ M' = M2))) ∧ (¬ ((M.1 32 1) < (3 : Int32)) → (r = some (.int (-3)) ∧ M' = M)))) : Ev G 0 [(0, .ref 32)] [] M := by
  refine e_aload_n (pc := 0) g 0 dX8_add_0 rfl ?_
  refine e_getI (pc := 1) g fl_X8_16 sh_32 rfl dX8_add_1 ?_
  refine e_iconst (pc := 4) g 3 dX8_add_4 kc_3 ?_
  refine e_icmp_lt (pc := 5) g 13 dX8_add_5 (by decide) (fun c1 => ?_) (fun c1 => ?_)
  · have h := h.1 c1
    refine e_aload_n (pc := 13) g 0 dX8_add_13 rfl ?_
    refine e_dup (pc := 14) g dX8_add_14 rfl ?_
    refine e_getI (pc := 15) g fl_X8_16 sh_32 rfl dX8_add_15 ?_
    refine e_dup_x1 (pc := 18) g dX8_add_18 rfl rfl ?_
    refine e_iconst (pc := 19) g 1 dX8_add_19 kc_1 ?_
    refine e_iadd (pc := 20) g dX8_add_20 ?_
    refine e_putI (pc := 21) g fw_X8_16 sh_32 rfl dX8_add_21 ?_
    obtain ⟨M2, qM2⟩ : ∃ y : MM, y = ui M 32 1 ((M.1 32 1) + 1) := ⟨_, rfl⟩
    have h := h M2 qM2
    refine e_to (M' := M2) rfl rfl (by rw [qM2]) ?_
    exact e_iret (pc := 24) g gr rfl dX8_add_24 h
  · have h := h.2 c1
    refine e_bipush (pc := 8) g (-3) dX8_add_8 kb_m3 ?_
    refine e_goto (pc := 10) g 24 dX8_add_10 (by decide) ?_
    exact e_iret (pc := 24) g gr rfl dX8_add_24 h
set_option maxHeartbeats 4000000 in
set_option maxRecDepth 100000 in
theorem b_X8_has_0 {G : GC} {n : Nat} {r : Option Value} {M' : MM} (g : Good G mX8_has n) (gr : GoodR G r M') (hn : 1 ≤ n) (a1 : Int32)   (M : MM) (h : ((if a1 < (0 : Int32) then 0 else (if ((M.1 32 1) : Int32) ≤ a1 then 0 else 1)) = (0 : Int32) ∨ (if a1 < (0 : Int32) then 0 else (if ((M.1 32 1) : Int32) ≤ a1 then 0 else 1)) = (1 : Int32)) ∧ (r = some (.int (if a1 < (0 : Int32) then 0 else (if ((M.1 32 1) : Int32) ≤ a1 then 0 else 1))) ∧ M' = M)) : Ev G 0 [(0, .ref 32), (1, .int a1)] [] M := by
  refine e_iload_n (pc := 0) g 1 dX8_has_0 rfl ?_
  have hj : Ev G 17 [(0, .ref 32), (1, .int a1)] [.int (if a1 < (0 : Int32) then 0 else (if ((M.1 32 1) : Int32) ≤ a1 then 0 else 1))] M := by
    obtain ⟨o3, h⟩ := h
    exact e_zret (pc := 17) g gr rfl o3 dX8_has_17 h
  refine e_if_lt (pc := 1) g 16 dX8_has_1 (by decide) (fun c1 => ?_) (fun c1 => ?_)
  · rw [if_pos c1] at hj
    refine e_iconst (pc := 16) g 0 dX8_has_16 kc_0 ?_
    exact hj
  · rw [if_neg c1] at hj
    refine e_iload_n (pc := 4) g 1 dX8_has_4 rfl ?_
    refine e_aload_n (pc := 5) g 0 dX8_has_5 rfl ?_
    refine e_getI (pc := 6) g fl_X8_16 sh_32 rfl dX8_has_6 ?_
    refine e_icmp_ge (pc := 9) g 16 dX8_has_9 (by decide) (fun c2 => ?_) (fun c2 => ?_)
    · rw [if_pos c2] at hj
      refine e_iconst (pc := 16) g 0 dX8_has_16 kc_0 ?_
      exact hj
    · rw [if_neg c2] at hj
      refine e_iconst (pc := 12) g 1 dX8_has_12 kc_1 ?_
      refine e_goto (pc := 13) g 17 dX8_has_13 (by decide) ?_
      exact hj
set_option maxHeartbeats 4000000 in
set_option maxRecDepth 100000 in
theorem b_X8_tried_0 {G : GC} {n : Nat} {r : Option Value} {M' : MM} (g : Good G mX8_tried n) (gr : GoodR G r M') (hn : 2 ≤ n)    (M : MM) (h : (∃ (r3 : Int32) (M1 : MM), Fn 1 mJ9_max_7cf53 [.int (M.1 32 1), .int 1] M (some (.int r3)) M1 ∧ (r = some (.int r3) ∧ M' = M1))) : Ev G 0 [(0, .ref 32)] [] M := by
  refine e_aload_n (pc := 0) g 0 dX8_tried_0 rfl ?_
  refine e_getI (pc := 1) g fl_X8_16 sh_32 rfl dX8_tried_1 ?_
  refine e_iconst (pc := 4) g 1 dX8_tried_4 kc_1 ?_
  obtain ⟨r3, M1, f2, h⟩ := h
  refine e_callS (As := [.int (M.1 32 1), .int 1]) (S := []) (pc := 5) g ok_J9_max_7cf53 ml_X8_20 f2 (by omega) rfl (Nat.le_of_ble_eq_true rfl) dX8_tried_5 ?_
  refine e_to (S' := [.int r3]) rfl rfl rfl ?_
  exact e_iret (pc := 8) g gr rfl dX8_tried_8 h
set_option maxHeartbeats 4000000 in
set_option maxRecDepth 100000 in
theorem b_J6_bitCount_0f7a4_0 {G : GC} {n : Nat} {r : Option Value} {M' : MM} (g : Good G mJ6_bitCount_0f7a4 n) (gr : GoodR G r M') (hn : 1 ≤ n) (a0 : Int32)   (M : MM) (h : (∀ x1 : Int32, x1 = (a0 - ((((a0 : Int32).toUInt32 >>> ((1 : Int32).toUInt32 &&& Int32.toUInt32 31)).toInt32) &&& 1431655765)) → (∀ x2 : Int32, x2 = ((x1 &&& 858993459) + ((((x1 : Int32).toUInt32 >>> ((2 : Int32).toUInt32 &&& Int32.toUInt32 31)).toInt32) &&& 858993459)) → (∀ x3 : Int32, x3 = ((x2 + (((x2 : Int32).toUInt32 >>> ((4 : Int32).toUInt32 &&& Int32.toUInt32 31)).toInt32)) &&& 252645135) → (∀ x4 : Int32, x4 = (x3 + (((x3 : Int32).toUInt32 >>> ((8 : Int32).toUInt32 &&& Int32.toUInt32 31)).toInt32)) → (∀ x5 : Int32, x5 = (x4 + (((x4 : Int32).toUInt32 >>> ((16 : Int32).toUInt32 &&& Int32.toUInt32 31)).toInt32)) → (r = some (.int (x5 &&& 63)) ∧ M' = M))))))) : Ev G 0 [(0, .int a0)] [] M := by
  refine e_iload_n (pc := 0) g 0 dJ6_bitCount_0f7a4_0 rfl ?_
  refine e_iload_n (pc := 1) g 0 dJ6_bitCount_0f7a4_1 rfl ?_
  refine e_iconst (pc := 2) g 1 dJ6_bitCount_0f7a4_2 kc_1 ?_
  refine e_iushr (pc := 3) g dJ6_bitCount_0f7a4_3 ?_
  refine e_ldcw (pc := 4) g 1431655765 kc_J6_265 dJ6_bitCount_0f7a4_4 ?_
  refine e_iand (pc := 7) g dJ6_bitCount_0f7a4_7 ?_
  refine e_isub (pc := 8) g dJ6_bitCount_0f7a4_8 ?_
  obtain ⟨x1, qx1⟩ : ∃ y : Int32, y = (a0 - ((((a0 : Int32).toUInt32 >>> ((1 : Int32).toUInt32 &&& Int32.toUInt32 31)).toInt32) &&& 1431655765)) := ⟨_, rfl⟩
  have h := h x1 qx1
  refine e_to (S' := [.int x1]) rfl (by rw [qx1]) rfl ?_
  refine e_istore_n (pc := 9) g [(0, .int x1)] dJ6_bitCount_0f7a4_9 (by decide) rfl ?_
  refine e_iload_n (pc := 10) g 0 dJ6_bitCount_0f7a4_10 rfl ?_
  refine e_ldcw (pc := 11) g 858993459 kc_J6_266 dJ6_bitCount_0f7a4_11 ?_
  refine e_iand (pc := 14) g dJ6_bitCount_0f7a4_14 ?_
  refine e_iload_n (pc := 15) g 0 dJ6_bitCount_0f7a4_15 rfl ?_
  refine e_iconst (pc := 16) g 2 dJ6_bitCount_0f7a4_16 kc_2 ?_
  refine e_iushr (pc := 17) g dJ6_bitCount_0f7a4_17 ?_
  refine e_ldcw (pc := 18) g 858993459 kc_J6_266 dJ6_bitCount_0f7a4_18 ?_
  refine e_iand (pc := 21) g dJ6_bitCount_0f7a4_21 ?_
  refine e_iadd (pc := 22) g dJ6_bitCount_0f7a4_22 ?_
  obtain ⟨x2, qx2⟩ : ∃ y : Int32, y = ((x1 &&& 858993459) + ((((x1 : Int32).toUInt32 >>> ((2 : Int32).toUInt32 &&& Int32.toUInt32 31)).toInt32) &&& 858993459)) := ⟨_, rfl⟩
  have h := h x2 qx2
  refine e_to (S' := [.int x2]) rfl (by rw [qx2]) rfl ?_
  refine e_istore_n (pc := 23) g [(0, .int x2)] dJ6_bitCount_0f7a4_23 (by decide) rfl ?_
  refine e_iload_n (pc := 24) g 0 dJ6_bitCount_0f7a4_24 rfl ?_
  refine e_iload_n (pc := 25) g 0 dJ6_bitCount_0f7a4_25 rfl ?_
  refine e_iconst (pc := 26) g 4 dJ6_bitCount_0f7a4_26 kc_4 ?_
  refine e_iushr (pc := 27) g dJ6_bitCount_0f7a4_27 ?_
  refine e_iadd (pc := 28) g dJ6_bitCount_0f7a4_28 ?_
  refine e_ldcw (pc := 29) g 252645135 kc_J6_267 dJ6_bitCount_0f7a4_29 ?_
  refine e_iand (pc := 32) g dJ6_bitCount_0f7a4_32 ?_
  obtain ⟨x3, qx3⟩ : ∃ y : Int32, y = ((x2 + (((x2 : Int32).toUInt32 >>> ((4 : Int32).toUInt32 &&& Int32.toUInt32 31)).toInt32)) &&& 252645135) := ⟨_, rfl⟩
  have h := h x3 qx3
  refine e_to (S' := [.int x3]) rfl (by rw [qx3]) rfl ?_
  refine e_istore_n (pc := 33) g [(0, .int x3)] dJ6_bitCount_0f7a4_33 (by decide) rfl ?_
  refine e_iload_n (pc := 34) g 0 dJ6_bitCount_0f7a4_34 rfl ?_
  refine e_iload_n (pc := 35) g 0 dJ6_bitCount_0f7a4_35 rfl ?_
  refine e_bipush (pc := 36) g 8 dJ6_bitCount_0f7a4_36 kb_8 ?_
  refine e_iushr (pc := 38) g dJ6_bitCount_0f7a4_38 ?_
  refine e_iadd (pc := 39) g dJ6_bitCount_0f7a4_39 ?_
  obtain ⟨x4, qx4⟩ : ∃ y : Int32, y = (x3 + (((x3 : Int32).toUInt32 >>> ((8 : Int32).toUInt32 &&& Int32.toUInt32 31)).toInt32)) := ⟨_, rfl⟩
  have h := h x4 qx4
  refine e_to (S' := [.int x4]) rfl (by rw [qx4]) rfl ?_
  refine e_istore_n (pc := 40) g [(0, .int x4)] dJ6_bitCount_0f7a4_40 (by decide) rfl ?_
  refine e_iload_n (pc := 41) g 0 dJ6_bitCount_0f7a4_41 rfl ?_
  refine e_iload_n (pc := 42) g 0 dJ6_bitCount_0f7a4_42 rfl ?_
  refine e_bipush (pc := 43) g 16 dJ6_bitCount_0f7a4_43 kb_16 ?_
  refine e_iushr (pc := 45) g dJ6_bitCount_0f7a4_45 ?_
  refine e_iadd (pc := 46) g dJ6_bitCount_0f7a4_46 ?_
  obtain ⟨x5, qx5⟩ : ∃ y : Int32, y = (x4 + (((x4 : Int32).toUInt32 >>> ((16 : Int32).toUInt32 &&& Int32.toUInt32 31)).toInt32)) := ⟨_, rfl⟩
  have h := h x5 qx5
  refine e_to (S' := [.int x5]) rfl (by rw [qx5]) rfl ?_
  refine e_istore_n (pc := 47) g [(0, .int x5)] dJ6_bitCount_0f7a4_47 (by decide) rfl ?_
  refine e_iload_n (pc := 48) g 0 dJ6_bitCount_0f7a4_48 rfl ?_
  refine e_bipush (pc := 49) g 63 dJ6_bitCount_0f7a4_49 kb_63 ?_
  refine e_iand (pc := 51) g dJ6_bitCount_0f7a4_51 ?_
  exact e_iret (pc := 52) g gr rfl dJ6_bitCount_0f7a4_52 h
set_option maxHeartbeats 4000000 in
set_option maxRecDepth 100000 in
theorem b_J9_floorMod_7cf53_0 {G : GC} {n : Nat} {r : Option Value} {M' : MM} (g : Good G mJ9_floorMod_7cf53 n) (gr : GoodR G r M') (hn : 1 ≤ n) (a0 : Int32) (a1 : Int32)   (M : MM) (h : (¬ a1 = (0 : Int32)) ∧ (∀ x2 : Int32, x2 = (a0 - a0 / a1 * a1) → (((0 : Int32) ≤ (a0 ^^^ a1) → (r = some (.int x2) ∧ M' = M)) ∧ (¬ ((0 : Int32) ≤ (a0 ^^^ a1)) → ((x2 = (0 : Int32) → (r = some (.int x2) ∧ M' = M)) ∧ (¬ (x2 = (0 : Int32)) → (r = some (.int (x2 + a1)) ∧ M' = M))))))) : Ev G 0 [(0, .int a0), (1, .int a1)] [] M := by
  refine e_iload_n (pc := 0) g 0 dJ9_floorMod_7cf53_0 rfl ?_
  refine e_iload_n (pc := 1) g 1 dJ9_floorMod_7cf53_1 rfl ?_
  obtain ⟨o1, h⟩ := h
  refine e_irem (pc := 2) g dJ9_floorMod_7cf53_2 o1 ?_
  obtain ⟨x2, qx2⟩ : ∃ y : Int32, y = (a0 - a0 / a1 * a1) := ⟨_, rfl⟩
  have h := h x2 qx2
  refine e_to (S' := [.int x2]) rfl (by rw [qx2]) rfl ?_
  refine e_istore_n (pc := 3) g [(0, .int a0), (1, .int a1), (2, .int x2)] dJ9_floorMod_7cf53_3 (by decide) rfl ?_
  refine e_iload_n (pc := 4) g 0 dJ9_floorMod_7cf53_4 rfl ?_
  refine e_iload_n (pc := 5) g 1 dJ9_floorMod_7cf53_5 rfl ?_
  refine e_ixor (pc := 6) g dJ9_floorMod_7cf53_6 ?_
  refine e_if_ge (pc := 7) g 18 dJ9_floorMod_7cf53_7 (by decide) (fun c3 => ?_) (fun c3 => ?_)
  · have h := h.1 c3
    refine e_iload_n (pc := 18) g 2 dJ9_floorMod_7cf53_18 rfl ?_
    exact e_iret (pc := 19) g gr rfl dJ9_floorMod_7cf53_19 h
  · have h := h.2 c3
    refine e_iload_n (pc := 10) g 2 dJ9_floorMod_7cf53_10 rfl ?_
    refine e_if_eq (pc := 11) g 18 dJ9_floorMod_7cf53_11 (by decide) (fun c4 => ?_) (fun c4 => ?_)
    · have h := h.1 c4
      refine e_iload_n (pc := 18) g 2 dJ9_floorMod_7cf53_18 rfl ?_
      exact e_iret (pc := 19) g gr rfl dJ9_floorMod_7cf53_19 h
    · have h := h.2 c4
      refine e_iload_n (pc := 14) g 2 dJ9_floorMod_7cf53_14 rfl ?_
      refine e_iload_n (pc := 15) g 1 dJ9_floorMod_7cf53_15 rfl ?_
      refine e_iadd (pc := 16) g dJ9_floorMod_7cf53_16 ?_
      exact e_iret (pc := 17) g gr rfl dJ9_floorMod_7cf53_17 h
set_option maxHeartbeats 4000000 in
set_option maxRecDepth 100000 in
theorem b_J9_max_7cf53_0 {G : GC} {n : Nat} {r : Option Value} {M' : MM} (g : Good G mJ9_max_7cf53 n) (gr : GoodR G r M') (hn : 1 ≤ n) (a0 : Int32) (a1 : Int32)   (M : MM) (h : (r = some (.int (if a0 < (a1 : Int32) then a1 else a0)) ∧ M' = M)) : Ev G 0 [(0, .int a0), (1, .int a1)] [] M := by
  refine e_iload_n (pc := 0) g 0 dJ9_max_7cf53_0 rfl ?_
  refine e_iload_n (pc := 1) g 1 dJ9_max_7cf53_1 rfl ?_
  have hj : Ev G 10 [(0, .int a0), (1, .int a1)] [.int (if a0 < (a1 : Int32) then a1 else a0)] M := by
    exact e_iret (pc := 10) g gr rfl dJ9_max_7cf53_10 h
  refine e_icmp_lt (pc := 2) g 9 dJ9_max_7cf53_2 (by decide) (fun c1 => ?_) (fun c1 => ?_)
  · rw [if_pos c1] at hj
    refine e_iload_n (pc := 9) g 1 dJ9_max_7cf53_9 rfl ?_
    exact hj
  · rw [if_neg c1] at hj
    refine e_iload_n (pc := 5) g 0 dJ9_max_7cf53_5 rfl ?_
    refine e_goto (pc := 6) g 10 dJ9_max_7cf53_6 (by decide) ?_
    exact hj
set_option maxHeartbeats 4000000 in
set_option maxRecDepth 100000 in
theorem b_J9_min_7cf53_0 {G : GC} {n : Nat} {r : Option Value} {M' : MM} (g : Good G mJ9_min_7cf53 n) (gr : GoodR G r M') (hn : 1 ≤ n) (a0 : Int32) (a1 : Int32)   (M : MM) (h : (r = some (.int (if (a1 : Int32) < a0 then a1 else a0)) ∧ M' = M)) : Ev G 0 [(0, .int a0), (1, .int a1)] [] M := by
  refine e_iload_n (pc := 0) g 0 dJ9_min_7cf53_0 rfl ?_
  refine e_iload_n (pc := 1) g 1 dJ9_min_7cf53_1 rfl ?_
  have hj : Ev G 10 [(0, .int a0), (1, .int a1)] [.int (if (a1 : Int32) < a0 then a1 else a0)] M := by
    exact e_iret (pc := 10) g gr rfl dJ9_min_7cf53_10 h
  refine e_icmp_gt (pc := 2) g 9 dJ9_min_7cf53_2 (by decide) (fun c1 => ?_) (fun c1 => ?_)
  · rw [if_pos c1] at hj
    refine e_iload_n (pc := 9) g 1 dJ9_min_7cf53_9 rfl ?_
    exact hj
  · rw [if_neg c1] at hj
    refine e_iload_n (pc := 5) g 0 dJ9_min_7cf53_5 rfl ?_
    refine e_goto (pc := 6) g 10 dJ9_min_7cf53_6 (by decide) ?_
    exact hj
set_option maxHeartbeats 4000000 in
set_option maxRecDepth 100000 in
theorem b_J9_min_f86c9_0 {G : GC} {n : Nat} {r : Option Value} {M' : MM} (g : Good G mJ9_min_f86c9 n) (gr : GoodR G r M') (hn : 1 ≤ n) (a0 : Int64) (a2 : Int64)   (M : MM) (h : (r = some (.long (if a0 > (a2 : Int64) then a2 else a0)) ∧ M' = M)) : Ev G 0 [(0, .long a0), (2, .long a2)] [] M := by
  refine e_lload_n (pc := 0) g 0 dJ9_min_f86c9_0 rfl ?_
  refine e_lload_n (pc := 1) g 1 dJ9_min_f86c9_1 rfl ?_
  refine e_lcmp (pc := 2) g dJ9_min_f86c9_2 ?_
  have hj : Ev G 11 [(0, .long a0), (2, .long a2)] [.long (if a0 > (a2 : Int64) then a2 else a0)] M := by
    exact e_lret (pc := 11) g gr rfl dJ9_min_f86c9_11 h
  refine e_if_gt (pc := 3) g 10 dJ9_min_f86c9_3 (by decide) (fun c1 => ?_) (fun c1 => ?_)
  · rw [if_pos (lc_gt.mp c1)] at hj
    refine e_lload_n (pc := 10) g 1 dJ9_min_f86c9_10 rfl ?_
    exact hj
  · rw [if_neg (fun z => c1 (lc_gt.mpr z))] at hj
    refine e_lload_n (pc := 6) g 0 dJ9_min_f86c9_6 rfl ?_
    refine e_goto (pc := 7) g 11 dJ9_min_f86c9_7 (by decide) ?_
    exact hj
/-- at the cut 5 of J7_fill_53178 -/
def At_J7_fill_53178_5 (G : GC) (w : Nat) (v1 : Int32) (v2 : Int32) (v3 : Int32)  (M : MM) : Prop := Ev G 5 [(0, .ref w), (1, .int v1), (2, .int v2), (3, .int v3)] [] M
set_option maxHeartbeats 4000000 in
set_option maxRecDepth 100000 in
theorem b_J7_fill_53178_0 {G : GC} {n : Nat} {r : Option Value} {M' : MM} (g : Good G mJ7_fill_53178 n) (gr : GoodR G r M') (hn : 1 ≤ n) (w : Nat) (N : Nat) (a1 : Int32)  (hw : shp w = (1, 0, N, [])) (M : MM) (h : (∀ x1 : Int32, x1 = (nI N) → At_J7_fill_53178_5 G w a1 0 x1 M)) : Ev G 0 [(0, .ref w), (1, .int a1)] [] M := by
  refine e_iconst (pc := 0) g 0 dJ7_fill_53178_0 kc_0 ?_
  refine e_istore_n (pc := 1) g [(0, .ref w), (1, .int a1), (2, .int 0)] dJ7_fill_53178_1 (by decide) rfl ?_
  refine e_aload_n (pc := 2) g 0 dJ7_fill_53178_2 rfl ?_
  refine e_ialen (pc := 3) g hw dJ7_fill_53178_3 ?_
  obtain ⟨x1, qx1⟩ : ∃ y : Int32, y = (nI N) := ⟨_, rfl⟩
  have h := h x1 qx1
  refine e_to (S' := [.int x1]) rfl (by rw [qx1]) rfl ?_
  refine e_istore_n (pc := 4) g [(0, .ref w), (1, .int a1), (2, .int 0), (3, .int x1)] dJ7_fill_53178_4 (by decide) rfl ?_
  exact h
set_option maxHeartbeats 4000000 in
set_option maxRecDepth 100000 in
theorem b_J7_fill_53178_5 {G : GC} {n : Nat} {r : Option Value} {M' : MM} (g : Good G mJ7_fill_53178 n) (gr : GoodR G r M') (hn : 1 ≤ n) (w : Nat) (N : Nat) (v1 : Int32) (v2 : Int32) (v3 : Int32) (hw : shp w = (1, 0, N, [])) (M : MM) (h : (((v3 : Int32) ≤ v2 → (r = none ∧ M' = M)) ∧ (¬ ((v3 : Int32) ≤ v2) → (vp_in v2 N) ∧ (∀ M3 : MM, M3 = ui M w v2.toNatClampNeg v1 → (∀ x4 : Int32, x4 = v2 + 1 → At_J7_fill_53178_5 G w v1 x4 v3 M3))))) : At_J7_fill_53178_5 G w v1 v2 v3 M := by
  unfold At_J7_fill_53178_5
  refine e_iload_n (pc := 5) g 2 dJ7_fill_53178_5 rfl ?_
  refine e_iload_n (pc := 6) g 3 dJ7_fill_53178_6 rfl ?_
  refine e_icmp_ge (pc := 7) g 20 dJ7_fill_53178_7 (by decide) (fun c1 => ?_) (fun c1 => ?_)
  · have h := h.1 c1
    exact e_vret (pc := 20) g gr rfl dJ7_fill_53178_20 h
  · have h := h.2 c1
    refine e_aload_n (pc := 10) g 0 dJ7_fill_53178_10 rfl ?_
    refine e_iload_n (pc := 11) g 2 dJ7_fill_53178_11 rfl ?_
    refine e_iload_n (pc := 12) g 1 dJ7_fill_53178_12 rfl ?_
    obtain ⟨o2, h⟩ := h
    refine e_iast (pc := 13) g hw o2 dJ7_fill_53178_13 ?_
    obtain ⟨M3, qM3⟩ : ∃ y : MM, y = ui M w v2.toNatClampNeg v1 := ⟨_, rfl⟩
    have h := h M3 qM3
    refine e_to (M' := M3) rfl rfl (by rw [qM3]) ?_
    obtain ⟨x4, qx4⟩ : ∃ y : Int32, y = v2 + 1 := ⟨_, rfl⟩
    have h := h x4 qx4
    refine e_iinc (pc := 14) g 2 x4 [(0, .ref w), (1, .int v1), (2, .int x4), (3, .int v3)] dJ7_fill_53178_14 rfl (by rw [qx4]; rfl) (by decide) rfl ?_
    refine e_goto (pc := 17) g 5 dJ7_fill_53178_17 (by decide) ?_
    exact h

set_option maxHeartbeats 4000000 in
set_option maxRecDepth 100000 in
theorem b_X0_add_0 {G : GC} {n : Nat} {r : Option Value} {M' : MM} (g : Good G mX0_add n) (gr : GoodR G r M') (hn : 1 ≤ n) (a1 : Int32) (a2 : Int32) (a3 : Int32)   (M : MM) (h : (((M.1 2 7) < (6 : Int32) → (vp_in (M.1 2 7) 6) ∧ (∀ M3 : MM, M3 = ui M 3 (M.1 2 7).toNatClampNeg a1 → (vp_in (M3.1 2 7) 6) ∧ (∀ M5 : MM, M5 = ui M3 4 (M3.1 2 7).toNatClampNeg a2 → (vp_in (M5.1 2 7) 6) ∧ (∀ M7 : MM, M7 = ui M5 5 (M5.1 2 7).toNatClampNeg (-1000) → (vp_in (M7.1 2 7) 6) ∧ (∀ M9 : MM, M9 = ui M7 6 (M7.1 2 7).toNatClampNeg 1000 → (vp_in (M9.1 2 7) 6) ∧ (∀ M11 : MM, M11 = ui M9 7 (M9.1 2 7).toNatClampNeg a3 → (∀ M12 : MM, M12 = ui M11 2 7 ((M11.1 2 7) + 1) → (r = some (.int (M11.1 2 7)) ∧ M' = M12)))))))) ∧ (¬ ((M.1 2 7) < (6 : Int32)) → (r = some (.int (-3)) ∧ M' = M)))) : Ev G 0 [(0, .ref 2), (1, .int a1), (2, .int a2), (3, .int a3)] [] M := by
  refine e_aload_n (pc := 0) g 0 dX0_add_0 rfl ?_
  refine e_getI (pc := 1) g fl_X0_33 sh_2 rfl dX0_add_1 ?_
  refine e_bipush (pc := 4) g 6 dX0_add_4 kb_6 ?_
  refine e_icmp_lt (pc := 6) g 12 dX0_add_6 (by decide) (fun c1 => ?_) (fun c1 => ?_)
  · have h := h.1 c1
    refine e_aload_n (pc := 12) g 0 dX0_add_12 rfl ?_
    refine e_getR (pc := 13) g 3 fl_X0_9 sh_2 rfl dX0_add_13 ?_
    refine e_aload_n (pc := 16) g 0 dX0_add_16 rfl ?_
    refine e_getI (pc := 17) g fl_X0_33 sh_2 rfl dX0_add_17 ?_
    refine e_iload_n (pc := 20) g 1 dX0_add_20 rfl ?_
    obtain ⟨o2, h⟩ := h
    refine e_iast (pc := 21) g sh_3 o2 dX0_add_21 ?_
    obtain ⟨M3, qM3⟩ : ∃ y : MM, y = ui M 3 (M.1 2 7).toNatClampNeg a1 := ⟨_, rfl⟩
    have h := h M3 qM3
    refine e_to (M' := M3) rfl rfl (by rw [qM3]) ?_
    refine e_aload_n (pc := 22) g 0 dX0_add_22 rfl ?_
    refine e_getR (pc := 23) g 4 fl_X0_15 sh_2 rfl dX0_add_23 ?_
    refine e_aload_n (pc := 26) g 0 dX0_add_26 rfl ?_
    refine e_getI (pc := 27) g fl_X0_33 sh_2 rfl dX0_add_27 ?_
    refine e_iload_n (pc := 30) g 2 dX0_add_30 rfl ?_
    obtain ⟨o4, h⟩ := h
    refine e_iast (pc := 31) g sh_4 o4 dX0_add_31 ?_
    obtain ⟨M5, qM5⟩ : ∃ y : MM, y = ui M3 4 (M3.1 2 7).toNatClampNeg a2 := ⟨_, rfl⟩
    have h := h M5 qM5
    refine e_to (M' := M5) rfl rfl (by rw [qM5]) ?_
    refine e_aload_n (pc := 32) g 0 dX0_add_32 rfl ?_
    refine e_getR (pc := 33) g 5 fl_X0_18 sh_2 rfl dX0_add_33 ?_
    refine e_aload_n (pc := 36) g 0 dX0_add_36 rfl ?_
    refine e_getI (pc := 37) g fl_X0_33 sh_2 rfl dX0_add_37 ?_
    refine e_sipush (pc := 40) g (-1000) dX0_add_40 ks_m1000 ?_
    obtain ⟨o6, h⟩ := h
    refine e_iast (pc := 43) g sh_5 o6 dX0_add_43 ?_
    obtain ⟨M7, qM7⟩ : ∃ y : MM, y = ui M5 5 (M5.1 2 7).toNatClampNeg (-1000) := ⟨_, rfl⟩
    have h := h M7 qM7
    refine e_to (M' := M7) rfl rfl (by rw [qM7]) ?_
    refine e_aload_n (pc := 44) g 0 dX0_add_44 rfl ?_
    refine e_getR (pc := 45) g 6 fl_X0_21 sh_2 rfl dX0_add_45 ?_
    refine e_aload_n (pc := 48) g 0 dX0_add_48 rfl ?_
    refine e_getI (pc := 49) g fl_X0_33 sh_2 rfl dX0_add_49 ?_
    refine e_sipush (pc := 52) g 1000 dX0_add_52 ks_1000 ?_
    obtain ⟨o8, h⟩ := h
    refine e_iast (pc := 55) g sh_6 o8 dX0_add_55 ?_
    obtain ⟨M9, qM9⟩ : ∃ y : MM, y = ui M7 6 (M7.1 2 7).toNatClampNeg 1000 := ⟨_, rfl⟩
    have h := h M9 qM9
    refine e_to (M' := M9) rfl rfl (by rw [qM9]) ?_
    refine e_aload_n (pc := 56) g 0 dX0_add_56 rfl ?_
    refine e_getR (pc := 57) g 7 fl_X0_24 sh_2 rfl dX0_add_57 ?_
    refine e_aload_n (pc := 60) g 0 dX0_add_60 rfl ?_
    refine e_getI (pc := 61) g fl_X0_33 sh_2 rfl dX0_add_61 ?_
    refine e_iload_n (pc := 64) g 3 dX0_add_64 rfl ?_
    obtain ⟨o10, h⟩ := h
    refine e_iast (pc := 65) g sh_7 o10 dX0_add_65 ?_
    obtain ⟨M11, qM11⟩ : ∃ y : MM, y = ui M9 7 (M9.1 2 7).toNatClampNeg a3 := ⟨_, rfl⟩
    have h := h M11 qM11
    refine e_to (M' := M11) rfl rfl (by rw [qM11]) ?_
    refine e_aload_n (pc := 66) g 0 dX0_add_66 rfl ?_
    refine e_dup (pc := 67) g dX0_add_67 rfl ?_
    refine e_getI (pc := 68) g fl_X0_33 sh_2 rfl dX0_add_68 ?_
    refine e_dup_x1 (pc := 71) g dX0_add_71 rfl rfl ?_
    refine e_iconst (pc := 72) g 1 dX0_add_72 kc_1 ?_
    refine e_iadd (pc := 73) g dX0_add_73 ?_
    refine e_putI (pc := 74) g fw_X0_33 sh_2 rfl dX0_add_74 ?_
    obtain ⟨M12, qM12⟩ : ∃ y : MM, y = ui M11 2 7 ((M11.1 2 7) + 1) := ⟨_, rfl⟩
    have h := h M12 qM12
    refine e_to (M' := M12) rfl rfl (by rw [qM12]) ?_
    exact e_iret (pc := 77) g gr rfl dX0_add_77 h
  · have h := h.2 c1
    refine e_bipush (pc := 9) g (-3) dX0_add_9 kb_m3 ?_
    exact e_iret (pc := 11) g gr rfl dX0_add_11 h
set_option maxHeartbeats 4000000 in
set_option maxRecDepth 100000 in
theorem b_X0_has_0 {G : GC} {n : Nat} {r : Option Value} {M' : MM} (g : Good G mX0_has n) (gr : GoodR G r M') (hn : 1 ≤ n) (a1 : Int32)   (M : MM) (h : ((if a1 < (0 : Int32) then 0 else (if ((M.1 2 7) : Int32) ≤ a1 then 0 else 1)) = (0 : Int32) ∨ (if a1 < (0 : Int32) then 0 else (if ((M.1 2 7) : Int32) ≤ a1 then 0 else 1)) = (1 : Int32)) ∧ (r = some (.int (if a1 < (0 : Int32) then 0 else (if ((M.1 2 7) : Int32) ≤ a1 then 0 else 1))) ∧ M' = M)) : Ev G 0 [(0, .ref 2), (1, .int a1)] [] M := by
  refine e_iload_n (pc := 0) g 1 dX0_has_0 rfl ?_
  have hj : Ev G 17 [(0, .ref 2), (1, .int a1)] [.int (if a1 < (0 : Int32) then 0 else (if ((M.1 2 7) : Int32) ≤ a1 then 0 else 1))] M := by
    obtain ⟨o3, h⟩ := h
    exact e_zret (pc := 17) g gr rfl o3 dX0_has_17 h
  refine e_if_lt (pc := 1) g 16 dX0_has_1 (by decide) (fun c1 => ?_) (fun c1 => ?_)
  · rw [if_pos c1] at hj
    refine e_iconst (pc := 16) g 0 dX0_has_16 kc_0 ?_
    exact hj
  · rw [if_neg c1] at hj
    refine e_iload_n (pc := 4) g 1 dX0_has_4 rfl ?_
    refine e_aload_n (pc := 5) g 0 dX0_has_5 rfl ?_
    refine e_getI (pc := 6) g fl_X0_33 sh_2 rfl dX0_has_6 ?_
    refine e_icmp_ge (pc := 9) g 16 dX0_has_9 (by decide) (fun c2 => ?_) (fun c2 => ?_)
    · rw [if_pos c2] at hj
      refine e_iconst (pc := 16) g 0 dX0_has_16 kc_0 ?_
      exact hj
    · rw [if_neg c2] at hj
      refine e_iconst (pc := 12) g 1 dX0_has_12 kc_1 ?_
      refine e_goto (pc := 13) g 17 dX0_has_13 (by decide) ?_
      exact hj
set_option maxHeartbeats 4000000 in
set_option maxRecDepth 100000 in
theorem b_X0_level_0 {G : GC} {n : Nat} {r : Option Value} {M' : MM} (g : Good G mX0_level n) (gr : GoodR G r M') (hn : 1 ≤ n) (a1 : Int32) (w : Nat)  (hw : shp w = (1, 0, 6, [])) (M : MM) (h : (vp_in a1 6) ∧ (((1 : Int32) ≤ (M.1 3 a1.toNatClampNeg) → (¬ (M.1 3 a1.toNatClampNeg) = (0 : Int32)) ∧ (r = some (.int ((M.1 4 a1.toNatClampNeg) + ((M.1 w a1.toNatClampNeg) / (M.1 3 a1.toNatClampNeg)))) ∧ M' = M)) ∧ (¬ ((1 : Int32) ≤ (M.1 3 a1.toNatClampNeg)) → (r = some (.int (M.1 4 a1.toNatClampNeg)) ∧ M' = M)))) : Ev G 0 [(0, .ref 2), (1, .int a1), (2, .ref w)] [] M := by
  refine e_aload_n (pc := 0) g 0 dX0_level_0 rfl ?_
  refine e_getR (pc := 1) g 3 fl_X0_9 sh_2 rfl dX0_level_1 ?_
  refine e_iload_n (pc := 4) g 1 dX0_level_4 rfl ?_
  obtain ⟨o1, h⟩ := h
  refine e_iald (pc := 5) g sh_3 o1 dX0_level_5 ?_
  refine e_iconst (pc := 6) g 1 dX0_level_6 kc_1 ?_
  refine e_icmp_ge (pc := 7) g 19 dX0_level_7 (by decide) (fun c2 => ?_) (fun c2 => ?_)
  · have h := h.1 c2
    refine e_aload_n (pc := 19) g 0 dX0_level_19 rfl ?_
    refine e_getR (pc := 20) g 4 fl_X0_15 sh_2 rfl dX0_level_20 ?_
    refine e_iload_n (pc := 23) g 1 dX0_level_23 rfl ?_
    refine e_iald (pc := 24) g sh_4 o1 dX0_level_24 ?_
    refine e_aload_n (pc := 25) g 2 dX0_level_25 rfl ?_
    refine e_iload_n (pc := 26) g 1 dX0_level_26 rfl ?_
    refine e_iald (pc := 27) g hw o1 dX0_level_27 ?_
    refine e_aload_n (pc := 28) g 0 dX0_level_28 rfl ?_
    refine e_getR (pc := 29) g 3 fl_X0_9 sh_2 rfl dX0_level_29 ?_
    refine e_iload_n (pc := 32) g 1 dX0_level_32 rfl ?_
    refine e_iald (pc := 33) g sh_3 o1 dX0_level_33 ?_
    obtain ⟨o3, h⟩ := h
    refine e_idiv (pc := 34) g dX0_level_34 o3 ?_
    refine e_iadd (pc := 35) g dX0_level_35 ?_
    exact e_iret (pc := 36) g gr rfl dX0_level_36 h
  · have h := h.2 c2
    refine e_aload_n (pc := 10) g 0 dX0_level_10 rfl ?_
    refine e_getR (pc := 11) g 4 fl_X0_15 sh_2 rfl dX0_level_11 ?_
    refine e_iload_n (pc := 14) g 1 dX0_level_14 rfl ?_
    refine e_iald (pc := 15) g sh_4 o1 dX0_level_15 ?_
    refine e_goto (pc := 16) g 36 dX0_level_16 (by decide) ?_
    exact e_iret (pc := 36) g gr rfl dX0_level_36 h
set_option maxHeartbeats 4000000 in
set_option maxRecDepth 100000 in
theorem b_X0_breach_0 {G : GC} {n : Nat} {r : Option Value} {M' : MM} (g : Good G mX0_breach n) (gr : GoodR G r M') (hn : 2 ≤ n) (a1 : Int32) (w : Nat)  (hw : shp w = (1, 0, 6, [])) (M : MM) (h : (∃ (r3 : Int32) (M1 : MM), Fn 1 mX0_level [.ref 2, .int a1, .ref w] M (some (.int r3)) M1 ∧ (vp_in a1 6) ∧ ((((M1.1 5 a1.toNatClampNeg) : Int32) ≤ r3 → ((r3 ≤ ((M1.1 6 a1.toNatClampNeg) : Int32) → (r = some (.int 0) ∧ M' = M1)) ∧ (¬ (r3 ≤ ((M1.1 6 a1.toNatClampNeg) : Int32)) → (r = some (.int (r3 - (M1.1 6 a1.toNatClampNeg))) ∧ M' = M1)))) ∧ (¬ (((M1.1 5 a1.toNatClampNeg) : Int32) ≤ r3) → (r = some (.int ((M1.1 5 a1.toNatClampNeg) - r3)) ∧ M' = M1))))) : Ev G 0 [(0, .ref 2), (1, .int a1), (2, .ref w)] [] M := by
  refine e_aload_n (pc := 0) g 0 dX0_breach_0 rfl ?_
  refine e_iload_n (pc := 1) g 1 dX0_breach_1 rfl ?_
  refine e_aload_n (pc := 2) g 2 dX0_breach_2 rfl ?_
  obtain ⟨r3, M1, f2, h⟩ := h
  refine e_callV (As := [.int a1, .ref w]) (S := []) (pc := 3) g ok_X0_level ml_X0_37 sh_2 ⟨_, rfl, rfl⟩ f2 (by omega) rfl (Nat.le_of_ble_eq_true rfl) dX0_breach_3 ?_
  refine e_to (S' := [.int r3]) rfl rfl rfl ?_
  refine e_istore_n (pc := 6) g [(0, .ref 2), (1, .int a1), (2, .ref w), (3, .int r3)] dX0_breach_6 (by decide) rfl ?_
  refine e_iload_n (pc := 7) g 3 dX0_breach_7 rfl ?_
  refine e_aload_n (pc := 8) g 0 dX0_breach_8 rfl ?_
  refine e_getR (pc := 9) g 5 fl_X0_18 sh_2 rfl dX0_breach_9 ?_
  refine e_iload_n (pc := 12) g 1 dX0_breach_12 rfl ?_
  obtain ⟨o4, h⟩ := h
  refine e_iald (pc := 13) g sh_5 o4 dX0_breach_13 ?_
  refine e_icmp_ge (pc := 14) g 28 dX0_breach_14 (by decide) (fun c5 => ?_) (fun c5 => ?_)
  · have h := h.1 c5
    refine e_iload_n (pc := 28) g 3 dX0_breach_28 rfl ?_
    refine e_aload_n (pc := 29) g 0 dX0_breach_29 rfl ?_
    refine e_getR (pc := 30) g 6 fl_X0_21 sh_2 rfl dX0_breach_30 ?_
    refine e_iload_n (pc := 33) g 1 dX0_breach_33 rfl ?_
    refine e_iald (pc := 34) g sh_6 o4 dX0_breach_34 ?_
    refine e_icmp_le (pc := 35) g 49 dX0_breach_35 (by decide) (fun c6 => ?_) (fun c6 => ?_)
    · have h := h.1 c6
      refine e_iconst (pc := 49) g 0 dX0_breach_49 kc_0 ?_
      exact e_iret (pc := 50) g gr rfl dX0_breach_50 h
    · have h := h.2 c6
      refine e_iload_n (pc := 38) g 3 dX0_breach_38 rfl ?_
      refine e_aload_n (pc := 39) g 0 dX0_breach_39 rfl ?_
      refine e_getR (pc := 40) g 6 fl_X0_21 sh_2 rfl dX0_breach_40 ?_
      refine e_iload_n (pc := 43) g 1 dX0_breach_43 rfl ?_
      refine e_iald (pc := 44) g sh_6 o4 dX0_breach_44 ?_
      refine e_isub (pc := 45) g dX0_breach_45 ?_
      refine e_goto (pc := 46) g 50 dX0_breach_46 (by decide) ?_
      exact e_iret (pc := 50) g gr rfl dX0_breach_50 h
  · have h := h.2 c5
    refine e_aload_n (pc := 17) g 0 dX0_breach_17 rfl ?_
    refine e_getR (pc := 18) g 5 fl_X0_18 sh_2 rfl dX0_breach_18 ?_
    refine e_iload_n (pc := 21) g 1 dX0_breach_21 rfl ?_
    refine e_iald (pc := 22) g sh_5 o4 dX0_breach_22 ?_
    refine e_iload_n (pc := 23) g 3 dX0_breach_23 rfl ?_
    refine e_isub (pc := 24) g dX0_breach_24 ?_
    refine e_goto (pc := 25) g 50 dX0_breach_25 (by decide) ?_
    exact e_iret (pc := 50) g gr rfl dX0_breach_50 h
/-- at the cut 5 of X0_allBreach -/
def At_X0_allBreach_5 (G : GC) (w : Nat) (v2 : Int64) (v4 : Int32)  (M : MM) : Prop := Ev G 5 [(0, .ref 2), (1, .ref w), (2, .long v2), (4, .int v4)] [] M
set_option maxHeartbeats 4000000 in
set_option maxRecDepth 100000 in
theorem b_X0_allBreach_0 {G : GC} {n : Nat} {r : Option Value} {M' : MM} (g : Good G mX0_allBreach n) (gr : GoodR G r M') (hn : 3 ≤ n) (w : Nat)  (hw : shp w = (1, 0, 6, [])) (M : MM) (h : At_X0_allBreach_5 G w 0 0 M) : Ev G 0 [(0, .ref 2), (1, .ref w)] [] M := by
  refine e_lconst (pc := 0) g 0 dX0_allBreach_0 kl_0 ?_
  refine e_lstore_n (pc := 1) g [(0, .ref 2), (1, .ref w), (2, .long 0)] dX0_allBreach_1 (by decide) rfl ?_
  refine e_iconst (pc := 2) g 0 dX0_allBreach_2 kc_0 ?_
  refine e_istore (pc := 3) g [(0, .ref 2), (1, .ref w), (2, .long 0), (4, .int 0)] dX0_allBreach_3 (by decide) rfl ?_
  exact h
set_option maxHeartbeats 4000000 in
set_option maxRecDepth 100000 in
theorem b_X0_allBreach_5 {G : GC} {n : Nat} {r : Option Value} {M' : MM} (g : Good G mX0_allBreach n) (gr : GoodR G r M') (hn : 3 ≤ n) (w : Nat) (v2 : Int64) (v4 : Int32) (hw : shp w = (1, 0, 6, [])) (M : MM) (h : ((((M.1 2 7) : Int32) ≤ v4 → (r = some (.long v2) ∧ M' = M)) ∧ (¬ (((M.1 2 7) : Int32) ≤ v4) → (∃ (r4 : Int32) (M2 : MM), Fn 2 mX0_breach [.ref 2, .int v4, .ref w] M (some (.int r4)) M2 ∧ (∀ x5 : Int64, x5 = (v2 + (r4.toInt64)) → (∀ x6 : Int32, x6 = v4 + 1 → At_X0_allBreach_5 G w x5 x6 M2)))))) : At_X0_allBreach_5 G w v2 v4 M := by
  unfold At_X0_allBreach_5
  refine e_iload (pc := 5) g 3 dX0_allBreach_5 rfl ?_
  refine e_aload_n (pc := 7) g 0 dX0_allBreach_7 rfl ?_
  refine e_getI (pc := 8) g fl_X0_33 sh_2 rfl dX0_allBreach_8 ?_
  refine e_icmp_ge (pc := 11) g 31 dX0_allBreach_11 (by decide) (fun c1 => ?_) (fun c1 => ?_)
  · have h := h.1 c1
    refine e_lload_n (pc := 31) g 2 dX0_allBreach_31 rfl ?_
    exact e_lret (pc := 32) g gr rfl dX0_allBreach_32 h
  · have h := h.2 c1
    refine e_lload_n (pc := 14) g 2 dX0_allBreach_14 rfl ?_
    refine e_aload_n (pc := 15) g 0 dX0_allBreach_15 rfl ?_
    refine e_iload (pc := 16) g 3 dX0_allBreach_16 rfl ?_
    refine e_aload_n (pc := 18) g 1 dX0_allBreach_18 rfl ?_
    obtain ⟨r4, M2, f3, h⟩ := h
    refine e_callV (As := [.int v4, .ref w]) (S := [.long v2]) (pc := 19) g ok_X0_breach ml_X0_41 sh_2 ⟨_, rfl, rfl⟩ f3 (by omega) rfl (Nat.le_of_ble_eq_true rfl) dX0_allBreach_19 ?_
    refine e_to (S' := [.int r4, .long v2]) rfl rfl rfl ?_
    refine e_i2l (pc := 22) g dX0_allBreach_22 ?_
    refine e_ladd (pc := 23) g dX0_allBreach_23 ?_
    obtain ⟨x5, qx5⟩ : ∃ y : Int64, y = (v2 + (r4.toInt64)) := ⟨_, rfl⟩
    have h := h x5 qx5
    refine e_to (S' := [.long x5]) rfl (by rw [qx5]) rfl ?_
    refine e_lstore_n (pc := 24) g [(0, .ref 2), (1, .ref w), (2, .long x5), (4, .int v4)] dX0_allBreach_24 (by decide) rfl ?_
    obtain ⟨x6, qx6⟩ : ∃ y : Int32, y = v4 + 1 := ⟨_, rfl⟩
    have h := h x6 qx6
    refine e_iinc (pc := 25) g 3 x6 [(0, .ref 2), (1, .ref w), (2, .long x5), (4, .int x6)] dX0_allBreach_25 rfl (by rw [qx6]; rfl) (by decide) rfl ?_
    refine e_goto (pc := 28) g 5 dX0_allBreach_28 (by decide) ?_
    exact h
/-- at the cut 4 of X0_alarms -/
def At_X0_alarms_4 (G : GC)  (v1 : Int32) (v2 : Int32)  (M : MM) : Prop := Ev G 4 [(0, .ref 2), (1, .int v1), (2, .int v2)] [] M
set_option maxHeartbeats 4000000 in
set_option maxRecDepth 100000 in
theorem b_X0_alarms_0 {G : GC} {n : Nat} {r : Option Value} {M' : MM} (g : Good G mX0_alarms n) (gr : GoodR G r M') (hn : 3 ≤ n)    (M : MM) (h : At_X0_alarms_4 G 0 0 M) : Ev G 0 [(0, .ref 2)] [] M := by
  refine e_iconst (pc := 0) g 0 dX0_alarms_0 kc_0 ?_
  refine e_istore_n (pc := 1) g [(0, .ref 2), (1, .int 0)] dX0_alarms_1 (by decide) rfl ?_
  refine e_iconst (pc := 2) g 0 dX0_alarms_2 kc_0 ?_
  refine e_istore_n (pc := 3) g [(0, .ref 2), (1, .int 0), (2, .int 0)] dX0_alarms_3 (by decide) rfl ?_
  exact h
set_option maxHeartbeats 4000000 in
set_option maxRecDepth 100000 in
theorem b_X0_alarms_4 {G : GC} {n : Nat} {r : Option Value} {M' : MM} (g : Good G mX0_alarms n) (gr : GoodR G r M') (hn : 3 ≤ n)  (v1 : Int32) (v2 : Int32)  (M : MM) (h : ((((M.1 2 7) : Int32) ≤ v2 → (r = some (.int v1) ∧ M' = M)) ∧ (¬ (((M.1 2 7) : Int32) ≤ v2) → (∃ (r4 : Int32) (M2 : MM), Fn 2 mX0_breach [.ref 2, .int v2, .ref 7] M (some (.int r4)) M2 ∧ (∀ x6 : Int32, x6 = (v1 + (if r4 ≤ (0 : Int32) then 0 else 1)) → (∀ x7 : Int32, x7 = v2 + 1 → At_X0_alarms_4 G x6 x7 M2)))))) : At_X0_alarms_4 G v1 v2 M := by
  unfold At_X0_alarms_4
  refine e_iload_n (pc := 4) g 2 dX0_alarms_4 rfl ?_
  refine e_aload_n (pc := 5) g 0 dX0_alarms_5 rfl ?_
  refine e_getI (pc := 6) g fl_X0_33 sh_2 rfl dX0_alarms_6 ?_
  refine e_icmp_ge (pc := 9) g 38 dX0_alarms_9 (by decide) (fun c1 => ?_) (fun c1 => ?_)
  · have h := h.1 c1
    refine e_iload_n (pc := 38) g 1 dX0_alarms_38 rfl ?_
    exact e_iret (pc := 39) g gr rfl dX0_alarms_39 h
  · have h := h.2 c1
    refine e_iload_n (pc := 12) g 1 dX0_alarms_12 rfl ?_
    refine e_aload_n (pc := 13) g 0 dX0_alarms_13 rfl ?_
    refine e_iload_n (pc := 14) g 2 dX0_alarms_14 rfl ?_
    refine e_aload_n (pc := 15) g 0 dX0_alarms_15 rfl ?_
    refine e_getR (pc := 16) g 7 fl_X0_24 sh_2 rfl dX0_alarms_16 ?_
    obtain ⟨r4, M2, f3, h⟩ := h
    refine e_callV (As := [.int v2, .ref 7]) (S := [.int v1]) (pc := 19) g ok_X0_breach ml_X0_41 sh_2 ⟨_, rfl, rfl⟩ f3 (by omega) rfl (Nat.le_of_ble_eq_true rfl) dX0_alarms_19 ?_
    refine e_to (S' := [.int r4, .int v1]) rfl rfl rfl ?_
    have hj : Ev G 30 [(0, .ref 2), (1, .int v1), (2, .int v2)] [.int (if r4 ≤ (0 : Int32) then 0 else 1), .int v1] M2 := by
      refine e_iadd (pc := 30) g dX0_alarms_30 ?_
      obtain ⟨x6, qx6⟩ : ∃ y : Int32, y = (v1 + (if r4 ≤ (0 : Int32) then 0 else 1)) := ⟨_, rfl⟩
      have h := h x6 qx6
      refine e_to (S' := [.int x6]) rfl (by rw [qx6]) rfl ?_
      refine e_istore_n (pc := 31) g [(0, .ref 2), (1, .int x6), (2, .int v2)] dX0_alarms_31 (by decide) rfl ?_
      obtain ⟨x7, qx7⟩ : ∃ y : Int32, y = v2 + 1 := ⟨_, rfl⟩
      have h := h x7 qx7
      refine e_iinc (pc := 32) g 2 x7 [(0, .ref 2), (1, .int x6), (2, .int x7)] dX0_alarms_32 rfl (by rw [qx7]; rfl) (by decide) rfl ?_
      refine e_goto (pc := 35) g 4 dX0_alarms_35 (by decide) ?_
      exact h
    refine e_if_le (pc := 22) g 29 dX0_alarms_22 (by decide) (fun c5 => ?_) (fun c5 => ?_)
    · rw [if_pos c5] at hj
      refine e_iconst (pc := 29) g 0 dX0_alarms_29 kc_0 ?_
      exact hj
    · rw [if_neg c5] at hj
      refine e_iconst (pc := 25) g 1 dX0_alarms_25 kc_1 ?_
      refine e_goto (pc := 26) g 30 dX0_alarms_26 (by decide) ?_
      exact hj
/-- at the cut 4 of X0_allWater -/
def At_X0_allWater_4 (G : GC)  (v1 : Int32) (v2 : Int32)  (M : MM) : Prop := Ev G 4 [(0, .ref 2), (1, .int v1), (2, .int v2)] [] M
set_option maxHeartbeats 4000000 in
set_option maxRecDepth 100000 in
theorem b_X0_allWater_0 {G : GC} {n : Nat} {r : Option Value} {M' : MM} (g : Good G mX0_allWater n) (gr : GoodR G r M') (hn : 1 ≤ n)    (M : MM) (h : At_X0_allWater_4 G 0 0 M) : Ev G 0 [(0, .ref 2)] [] M := by
  refine e_iconst (pc := 0) g 0 dX0_allWater_0 kc_0 ?_
  refine e_istore_n (pc := 1) g [(0, .ref 2), (1, .int 0)] dX0_allWater_1 (by decide) rfl ?_
  refine e_iconst (pc := 2) g 0 dX0_allWater_2 kc_0 ?_
  refine e_istore_n (pc := 3) g [(0, .ref 2), (1, .int 0), (2, .int 0)] dX0_allWater_3 (by decide) rfl ?_
  exact h
set_option maxHeartbeats 4000000 in
set_option maxRecDepth 100000 in
theorem b_X0_allWater_4 {G : GC} {n : Nat} {r : Option Value} {M' : MM} (g : Good G mX0_allWater n) (gr : GoodR G r M') (hn : 1 ≤ n)  (v1 : Int32) (v2 : Int32)  (M : MM) (h : ((((M.1 2 7) : Int32) ≤ v2 → (r = some (.int v1) ∧ M' = M)) ∧ (¬ (((M.1 2 7) : Int32) ≤ v2) → (vp_in v2 6) ∧ (∀ x3 : Int32, x3 = (v1 + (M.1 7 v2.toNatClampNeg)) → (∀ x4 : Int32, x4 = v2 + 1 → At_X0_allWater_4 G x3 x4 M))))) : At_X0_allWater_4 G v1 v2 M := by
  unfold At_X0_allWater_4
  refine e_iload_n (pc := 4) g 2 dX0_allWater_4 rfl ?_
  refine e_aload_n (pc := 5) g 0 dX0_allWater_5 rfl ?_
  refine e_getI (pc := 6) g fl_X0_33 sh_2 rfl dX0_allWater_6 ?_
  refine e_icmp_ge (pc := 9) g 27 dX0_allWater_9 (by decide) (fun c1 => ?_) (fun c1 => ?_)
  · have h := h.1 c1
    refine e_iload_n (pc := 27) g 1 dX0_allWater_27 rfl ?_
    exact e_iret (pc := 28) g gr rfl dX0_allWater_28 h
  · have h := h.2 c1
    refine e_iload_n (pc := 12) g 1 dX0_allWater_12 rfl ?_
    refine e_aload_n (pc := 13) g 0 dX0_allWater_13 rfl ?_
    refine e_getR (pc := 14) g 7 fl_X0_24 sh_2 rfl dX0_allWater_14 ?_
    refine e_iload_n (pc := 17) g 2 dX0_allWater_17 rfl ?_
    obtain ⟨o2, h⟩ := h
    refine e_iald (pc := 18) g sh_7 o2 dX0_allWater_18 ?_
    refine e_iadd (pc := 19) g dX0_allWater_19 ?_
    obtain ⟨x3, qx3⟩ : ∃ y : Int32, y = (v1 + (M.1 7 v2.toNatClampNeg)) := ⟨_, rfl⟩
    have h := h x3 qx3
    refine e_to (S' := [.int x3]) rfl (by rw [qx3]) rfl ?_
    refine e_istore_n (pc := 20) g [(0, .ref 2), (1, .int x3), (2, .int v2)] dX0_allWater_20 (by decide) rfl ?_
    obtain ⟨x4, qx4⟩ : ∃ y : Int32, y = v2 + 1 := ⟨_, rfl⟩
    have h := h x4 qx4
    refine e_iinc (pc := 21) g 2 x4 [(0, .ref 2), (1, .int x3), (2, .int x4)] dX0_allWater_21 rfl (by rw [qx4]; rfl) (by decide) rfl ?_
    refine e_goto (pc := 24) g 4 dX0_allWater_24 (by decide) ?_
    exact h

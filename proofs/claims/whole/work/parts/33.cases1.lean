theorem case_weir {M : MM} {T : Nat} (I : Inv M T) (a b c d : Int32) : ∃ (r : Int32) (M1 M2 : MM), Fn 3 mX9_weir [.ref 0, .int a, .int b, .int c, .int d] M (some (.int r)) M1 ∧ Fn 3 mX10_weir [.ref 72, .int a, .int b, .int c, .int d] M1 (some (.int r)) M2 ∧ Inv M2 T := by
  obtain ⟨nd, nw, np, ns, nwd, h, bb, i1, i2, i3, i4, i5, i6, i7⟩ := id I
  obtain ⟨s1, s2, s3, s4, s5, s6, s7, s8, s9, s10, s11, s12, s13, s14, s15, s16, s17⟩ := id i1
  have h6 := i3.d6
  by_cases bad : hasV (nI nd) a = 0 ∨ hasV (nI nd) b = 0 ∨ a = b ∨ wth c (-500) 500 = 0 ∨ wth d 1 50 = 0
  · refine ⟨-1, M, M, fn_intro ok_X9_weir (Nat.le_of_ble_eq_true rfl) fun G g gr => ?_, fn_intro ok_X10_weir (Nat.le_of_ble_eq_true rfl) fun G g gr => ?_, I⟩
    · refine b_X9_weir_0 g gr (by decide) a b c d M ⟨_, _, fhasD s1 a, fun _ => ⟨rfl, rfl⟩, fun n1 => ⟨_, _, fhasD s1 b, fun _ => ⟨rfl, rfl⟩, fun n2 => ⟨fun n3 => ⟨_, _, fn_X9_isHeight _ _, fun _ => ⟨rfl, rfl⟩, fun n4 => ⟨_, _, fn_X9_within _ _ _ _, fun n5 => ?_, fun _ => ⟨rfl, rfl⟩⟩⟩, fun _ => ⟨rfl, rfl⟩⟩⟩⟩
      rcases bad with h | h | h | h | h
      · exact absurd h n1
      · exact absurd h n2
      · exact absurd h n3
      · exact absurd h n4
      · exact absurd h n5
    · refine b_X10_weir_0 g gr (by decide) a b c d M ⟨_, _, fisD (by omega) s2 a, fun _ => ⟨rfl, rfl⟩, fun n1 => ⟨_, _, fisD (by omega) s2 b, fun _ => ⟨rfl, rfl⟩, fun n2 => ⟨fun _ => ⟨rfl, rfl⟩, fun n3 => ⟨_, _, fin c (-500) 500 rfl rfl M, fun _ => ⟨rfl, rfl⟩, fun n4 => ⟨_, _, fin d 1 50 rfl rfl M, fun n5 => ?_, fun _ => ⟨rfl, rfl⟩⟩⟩⟩⟩⟩
      rcases bad with h | h | h | h | h
      · exact absurd h n1
      · exact absurd h n2
      · exact absurd h n3
      · exact absurd h n4
      · exact absurd h n5
  · have n1 : ¬ hasV (nI nd) a = 0 := fun e => bad (Or.inl e)
    have n2 : ¬ hasV (nI nd) b = 0 := fun e => bad (Or.inr (Or.inl e))
    have n3 : ¬ a = b := fun e => bad (Or.inr (Or.inr (Or.inl e)))
    have n4 : ¬ wth c (-500) 500 = 0 := fun e => bad (Or.inr (Or.inr (Or.inr (Or.inl e))))
    have n5 : ¬ wth d 1 50 = 0 := fun e => bad (Or.inr (Or.inr (Or.inr (Or.inr e))))
    rcases Nat.lt_or_ge nw 8 with hn | hn
    · obtain ⟨a, ha, rfl⟩ := (hasV_cases (by omega) a).resolve_left n1
      obtain ⟨b, hb, rfl⟩ := (hasV_cases (by omega) b).resolve_left n2
      obtain ⟨d, d1, d2, rfl⟩ := toNI (lo := 1) (hi := 50) (by omega) (by omega) n5
      have hab : a ≠ b := fun e => n3 (by rw [e])
      refine ⟨nI nw, ui (ui (ui (ui (ui M 11 nw (nI a)) 12 nw (nI b)) 13 nw c) 14 nw (nI d)) 10 4 (nI (nw + 1)), ui (ui (ui (ui (ui (ui (ui (ui (ui (ui M 11 nw (nI a)) 12 nw (nI b)) 13 nw c) 14 nw (nI d)) 10 4 (nI (nw + 1))) 80 nw (nI a)) 81 nw (nI b)) 82 nw c) 83 nw (nI d)) 72 8 (nI (nw + 1)), fn_intro ok_X9_weir (Nat.le_of_ble_eq_true rfl) fun G g gr => ?_, fn_intro ok_X10_weir (Nat.le_of_ble_eq_true rfl) fun G g gr => ?_, inv_weir hn ha hb hab d1 d2 i1 i2 i3 i4 i5 i6 i7⟩
      · exact b_X9_weir_0 g gr (by decide) _ _ c _ M ⟨_, _, fhasD s1 _, fun e => absurd e n1, fun _ => ⟨_, _, fhasD s1 _, fun e => absurd e n2, fun _ => ⟨fun _ => ⟨_, _, fn_X9_isHeight _ _, fun e => absurd e n4, fun _ => ⟨_, _, fn_X9_within _ _ _ _, fun _ => ⟨_, _, fn_X7_add s3 hn _ _ _ _, rfl, rfl⟩, fun e => absurd e n5⟩⟩, fun e => absurd e n3⟩⟩⟩
      · have zd : (ui (ui (ui (ui (ui M 11 nw (nI a)) 12 nw (nI b)) 13 nw c) 14 nw (nI d)) 10 4 (nI (nw + 1))).1 72 0 = nI nd := by simp [ui_diff]; exact s2
        have z : (ui (ui (ui (ui (ui M 11 nw (nI a)) 12 nw (nI b)) 13 nw c) 14 nw (nI d)) 10 4 (nI (nw + 1))).1 72 8 = nI nw := by simp [ui_diff]; exact s4
        generalize ui (ui (ui (ui (ui M 11 nw (nI a)) 12 nw (nI b)) 13 nw c) 14 nw (nI d)) 10 4 (nI (nw + 1)) = M1 at gr z zd ⊢
        refine b_X10_weir_0 g gr (by decide) _ _ c _ M1 ⟨_, _, fisD (by omega) zd _, fun e => absurd e n1, fun _ => ⟨_, _, fisD (by omega) zd _, fun e => absurd e n2, fun _ => ⟨fun e => absurd e n3, fun _ => ⟨_, _, fin c (-500) 500 rfl rfl M1, fun e => absurd e n4, fun _ => ⟨_, _, fin (nI d) 1 50 rfl rfl M1, fun _ => ⟨fun _ => ?_, fun e => ?_⟩, fun e => absurd e n5⟩⟩⟩⟩⟩
        · rw [z, nI_clamp (by omega)]
          refine ⟨vp_in_nI hn (by omega), ?_⟩
          intro Q1 e1
          have z1 : Q1.1 72 8 = nI nw := by rw [e1, ui_diff (by decide)]; exact z
          rw [z1, nI_clamp (by omega)]
          refine ⟨vp_in_nI hn (by omega), ?_⟩
          intro Q2 e2
          have z2 : Q2.1 72 8 = nI nw := by rw [e2, ui_diff (by decide)]; exact z1
          rw [z2, nI_clamp (by omega)]
          refine ⟨vp_in_nI hn (by omega), ?_⟩
          intro Q3 e3
          have z3 : Q3.1 72 8 = nI nw := by rw [e3, ui_diff (by decide)]; exact z2
          rw [z3, nI_clamp (by omega)]
          refine ⟨vp_in_nI hn (by omega), ?_⟩
          intro Q4 e4
          have z4 : Q4.1 72 8 = nI nw := by rw [e4, ui_diff (by decide)]; exact z3
          rw [z4, nI_1]
          intro Q5 e5
          have zz : Q5.1 72 8 = nI (nw + 1) := by rw [e5, ui_at]
          rw [zz, nI_pred]
          refine ⟨rfl, ?_⟩
          rw [e5, e4, e3, e2, e1]
        · rw [z, show (8 : Int32) = nI 8 from rfl, nI_eq (by omega) (by omega)] at e; omega
    · have h8 : nw = 8 := by have := i3.w8; omega
      subst h8
      refine ⟨-3, M, M, fn_intro ok_X9_weir (Nat.le_of_ble_eq_true rfl) fun G g gr => ?_, fn_intro ok_X10_weir (Nat.le_of_ble_eq_true rfl) fun G g gr => ?_, I⟩
      · exact b_X9_weir_0 g gr (by decide) _ _ c _ M ⟨_, _, fhasD s1 _, fun e => absurd e n1, fun _ => ⟨_, _, fhasD s1 _, fun e => absurd e n2, fun _ => ⟨fun _ => ⟨_, _, fn_X9_isHeight _ _, fun e => absurd e n4, fun _ => ⟨_, _, fn_X9_within _ _ _ _, fun _ => ⟨_, _, fn_X7_add_full s3 _ _ _ _, rfl, rfl⟩, fun e => absurd e n5⟩⟩, fun e => absurd e n3⟩⟩⟩
      · exact b_X10_weir_0 g gr (by decide) _ _ c _ M ⟨_, _, fisD (by omega) s2 _, fun e => absurd e n1, fun _ => ⟨_, _, fisD (by omega) s2 _, fun e => absurd e n2, fun _ => ⟨fun e => absurd e n3, fun _ => ⟨_, _, fin c (-500) 500 rfl rfl M, fun e => absurd e n4, fun _ => ⟨_, _, fin d 1 50 rfl rfl M, fun _ => ⟨fun e => absurd s4 e, fun _ => ⟨rfl, rfl⟩⟩, fun e => absurd e n5⟩⟩⟩⟩⟩
theorem case_sluice {M : MM} {T : Nat} (I : Inv M T) (a b : Int32) : ∃ (r : Int32) (M1 M2 : MM), Fn 2 mX9_sluice [.ref 0, .int a, .int b] M (some (.int r)) M1 ∧ Fn 3 mX10_sluice [.ref 72, .int a, .int b] M1 (some (.int r)) M2 ∧ Inv M2 T := by
  obtain ⟨nd, nw, np, ns, nwd, h, bb, i1, i2, i3, i4, i5, i6, i7⟩ := id I
  obtain ⟨s1, s2, s3, s4, s5, s6, s7, s8, s9, s10, s11, s12, s13, s14, s15, s16, s17⟩ := id i1
  have h6 := i3.d6
  by_cases bad : hasV (nI nd) a = 0 ∨ wth b 1 50 = 0
  · refine ⟨-1, M, M, fn_intro ok_X9_sluice (Nat.le_of_ble_eq_true rfl) fun G g gr => ?_, fn_intro ok_X10_sluice (Nat.le_of_ble_eq_true rfl) fun G g gr => ?_, I⟩
    · refine b_X9_sluice_0 g gr (by decide) a b M ⟨_, _, fhasD s1 a, fun _ => ⟨rfl, rfl⟩, fun n1 => ⟨_, _, fn_X9_within _ _ _ _, fun n5 => ?_, fun _ => ⟨rfl, rfl⟩⟩⟩
      rcases bad with h | h
      · exact absurd h n1
      · exact absurd h n5
    · refine b_X10_sluice_0 g gr (by decide) a b M ⟨_, _, fisD (by omega) s2 a, fun _ => ⟨rfl, rfl⟩, fun n1 => ⟨_, _, fin b 1 50 rfl rfl M, fun n5 => ?_, fun _ => ⟨rfl, rfl⟩⟩⟩
      rcases bad with h | h
      · exact absurd h n1
      · exact absurd h n5
  · have n1 : ¬ hasV (nI nd) a = 0 := fun e => bad (Or.inl e)
    have n5 : ¬ wth b 1 50 = 0 := fun e => bad (Or.inr e)
    rcases Nat.lt_or_ge ns 4 with hn | hn
    · obtain ⟨a, ha, rfl⟩ := (hasV_cases (by omega) a).resolve_left n1
      obtain ⟨b, d1, d2, rfl⟩ := toNI (lo := 1) (hi := 50) (by omega) (by omega) n5
      refine ⟨nI ns, ui (ui (ui M 23 ns (nI a)) 24 ns (nI b)) 22 3 (nI (ns + 1)), ui (ui (ui (ui (ui (ui M 23 ns (nI a)) 24 ns (nI b)) 22 3 (nI (ns + 1))) 91 ns (nI a)) 92 ns (nI b)) 72 21 (nI (ns + 1)), fn_intro ok_X9_sluice (Nat.le_of_ble_eq_true rfl) fun G g gr => ?_, fn_intro ok_X10_sluice (Nat.le_of_ble_eq_true rfl) fun G g gr => ?_, inv_sluice hn ha d1 d2 i1 i2 i3 i4 i5 i6 i7⟩
      · exact b_X9_sluice_0 g gr (by decide) _ _ M ⟨_, _, fhasD s1 _, fun e => absurd e n1, fun _ => ⟨_, _, fn_X9_within _ _ _ _, fun _ => ⟨_, _, fn_X6_add s7 hn _ _, rfl, rfl⟩, fun e => absurd e n5⟩⟩
      · have zd : (ui (ui (ui M 23 ns (nI a)) 24 ns (nI b)) 22 3 (nI (ns + 1))).1 72 0 = nI nd := by simp [ui_diff]; exact s2
        have z : (ui (ui (ui M 23 ns (nI a)) 24 ns (nI b)) 22 3 (nI (ns + 1))).1 72 21 = nI ns := by simp [ui_diff]; exact s8
        generalize ui (ui (ui M 23 ns (nI a)) 24 ns (nI b)) 22 3 (nI (ns + 1)) = M1 at gr z zd ⊢
        refine b_X10_sluice_0 g gr (by decide) _ _ M1 ⟨_, _, fisD (by omega) zd _, fun e => absurd e n1, fun _ => ⟨_, _, fin (nI b) 1 50 rfl rfl M1, fun _ => ⟨fun _ => ?_, fun e => ?_⟩, fun e => absurd e n5⟩⟩
        · rw [z, nI_clamp (by omega)]
          refine ⟨vp_in_nI hn (by omega), ?_⟩
          intro Q1 e1
          have z1 : Q1.1 72 21 = nI ns := by rw [e1, ui_diff (by decide)]; exact z
          rw [z1, nI_clamp (by omega)]
          refine ⟨vp_in_nI hn (by omega), ?_⟩
          intro Q2 e2
          have z2 : Q2.1 72 21 = nI ns := by rw [e2, ui_diff (by decide)]; exact z1
          rw [z2, nI_1]
          intro Q3 e3
          have zz : Q3.1 72 21 = nI (ns + 1) := by rw [e3, ui_at]
          rw [zz, nI_pred]
          refine ⟨rfl, ?_⟩
          rw [e3, e2, e1]
        · rw [z, show (4 : Int32) = nI 4 from rfl, nI_eq (by omega) (by omega)] at e; omega
    · have h8 : ns = 4 := by have := i3.s4; omega
      subst h8
      refine ⟨-3, M, M, fn_intro ok_X9_sluice (Nat.le_of_ble_eq_true rfl) fun G g gr => ?_, fn_intro ok_X10_sluice (Nat.le_of_ble_eq_true rfl) fun G g gr => ?_, I⟩
      · exact b_X9_sluice_0 g gr (by decide) _ _ M ⟨_, _, fhasD s1 _, fun e => absurd e n1, fun _ => ⟨_, _, fn_X9_within _ _ _ _, fun _ => ⟨_, _, fn_X6_add_full s7 _ _, rfl, rfl⟩, fun e => absurd e n5⟩⟩
      · exact b_X10_sluice_0 g gr (by decide) _ _ M ⟨_, _, fisD (by omega) s2 _, fun e => absurd e n1, fun _ => ⟨_, _, fin b 1 50 rfl rfl M, fun _ => ⟨fun e => absurd s8 e, fun _ => ⟨rfl, rfl⟩⟩, fun e => absurd e n5⟩⟩
theorem case_pump {M : MM} {T : Nat} (I : Inv M T) (a b c d e : Int32) : ∃ (r : Int32) (M1 M2 : MM), Fn 2 mX9_pump [.ref 0, .int a, .int b, .int c, .int d, .int e] M (some (.int r)) M1 ∧ Fn 3 mX10_pump [.ref 72, .int a, .int b, .int c, .int d, .int e] M1 (some (.int r)) M2 ∧ Inv M2 T := by
  obtain ⟨nd, nw, np, ns, nwd, h, bb, i1, i2, i3, i4, i5, i6, i7⟩ := id I
  obtain ⟨s1, s2, s3, s4, s5, s6, s7, s8, s9, s10, s11, s12, s13, s14, s15, s16, s17⟩ := id i1
  have h6 := i3.d6
  by_cases bad : hasV (nI nd) a = 0 ∨ (b ≠ -4 ∧ hasV (nI nd) b = 0) ∨ a = b ∨ wth c 1 1000 = 0 ∨ wth d 1 6 = 0 ∨ wth e 0 16777215 = 0
  · refine ⟨-1, M, M, fn_intro ok_X9_pump (Nat.le_of_ble_eq_true rfl) fun G g gr => ?_, fn_intro ok_X10_pump (Nat.le_of_ble_eq_true rfl) fun G g gr => ?_, I⟩
    · refine b_X9_pump_0 g gr (by decide) a b c d e M ⟨_, _, fhasD s1 a, fun _ => ⟨rfl, rfl⟩, fun n1 => ⟨fun n2 => ⟨fun n3 => ⟨_, _, fn_X9_within _ _ _ _, fun _ => ⟨rfl, rfl⟩, fun n4 => ⟨_, _, fn_X9_within _ _ _ _, fun _ => ⟨rfl, rfl⟩, fun n5 => ⟨_, _, fn_X9_within _ _ _ _, fun n6 => ?_, fun _ => ⟨rfl, rfl⟩⟩⟩⟩, fun _ => ⟨rfl, rfl⟩⟩, fun n2 => ⟨_, _, fhasD s1 b, fun _ => ⟨rfl, rfl⟩, fun n2b => ⟨fun n3 => ⟨_, _, fn_X9_within _ _ _ _, fun _ => ⟨rfl, rfl⟩, fun n4 => ⟨_, _, fn_X9_within _ _ _ _, fun _ => ⟨rfl, rfl⟩, fun n5 => ⟨_, _, fn_X9_within _ _ _ _, fun n6 => ?_, fun _ => ⟨rfl, rfl⟩⟩⟩⟩, fun _ => ⟨rfl, rfl⟩⟩⟩⟩⟩
      · rcases bad with h | h | h | h | h | h
        · exact absurd h n1
        · exact absurd n2 h.1
        · exact absurd h n3
        · exact absurd h n4
        · exact absurd h n5
        · exact absurd h n6
      · rcases bad with h | h | h | h | h | h
        · exact absurd h n1
        · exact absurd h.2 n2b
        · exact absurd h n3
        · exact absurd h n4
        · exact absurd h n5
        · exact absurd h n6
    · refine b_X10_pump_0 g gr (by decide) a b c d e M ⟨_, _, fisD (by omega) s2 a, fun _ => ⟨rfl, rfl⟩, fun n1 => ⟨fun n2 => ⟨fun _ => ⟨rfl, rfl⟩, fun n3 => ⟨_, _, fin c 1 1000 rfl rfl M, fun _ => ⟨rfl, rfl⟩, fun n4 => ⟨_, _, fin d 1 6 rfl rfl M, fun _ => ⟨rfl, rfl⟩, fun n5 => ⟨_, _, fin e 0 16777215 rfl rfl M, fun n6 => ?_, fun _ => ⟨rfl, rfl⟩⟩⟩⟩⟩, fun n2 => ⟨_, _, fisD (by omega) s2 b, fun _ => ⟨rfl, rfl⟩, fun n2b => ⟨fun _ => ⟨rfl, rfl⟩, fun n3 => ⟨_, _, fin c 1 1000 rfl rfl M, fun _ => ⟨rfl, rfl⟩, fun n4 => ⟨_, _, fin d 1 6 rfl rfl M, fun _ => ⟨rfl, rfl⟩, fun n5 => ⟨_, _, fin e 0 16777215 rfl rfl M, fun n6 => ?_, fun _ => ⟨rfl, rfl⟩⟩⟩⟩⟩⟩⟩⟩
      · rcases bad with h | h | h | h | h | h
        · exact absurd h n1
        · exact absurd n2 h.1
        · exact absurd h n3
        · exact absurd h n4
        · exact absurd h n5
        · exact absurd h n6
      · rcases bad with h | h | h | h | h | h
        · exact absurd h n1
        · exact absurd h.2 n2b
        · exact absurd h n3
        · exact absurd h n4
        · exact absurd h n5
        · exact absurd h n6
  · have n1 : ¬ hasV (nI nd) a = 0 := fun e => bad (Or.inl e)
    have n2 : b ≠ -4 → ¬ hasV (nI nd) b = 0 := fun q e => bad (Or.inr (Or.inl ⟨q, e⟩))
    have n3 : ¬ a = b := fun e => bad (Or.inr (Or.inr (Or.inl e)))
    have n4 : ¬ wth c 1 1000 = 0 := fun e => bad (Or.inr (Or.inr (Or.inr (Or.inl e))))
    have n5 : ¬ wth d 1 6 = 0 := fun e => bad (Or.inr (Or.inr (Or.inr (Or.inr (Or.inl e)))))
    have n6 : ¬ wth e 0 16777215 = 0 := fun e => bad (Or.inr (Or.inr (Or.inr (Or.inr (Or.inr e)))))
    rcases Nat.lt_or_ge np 4 with hn | hn
    · obtain ⟨a, ha, rfl⟩ := (hasV_cases (by omega) a).resolve_left n1
      obtain ⟨c, c1, c2, rfl⟩ := toNI (lo := 1) (hi := 1000) (by omega) (by omega) n4
      obtain ⟨d, d1, d2, rfl⟩ := toNI (lo := 1) (hi := 6) (by omega) (by omega) n5
      obtain ⟨e, f1, f2, rfl⟩ := toNI (lo := 0) (hi := 16777215) (by omega) (by omega) n6
      have hb : b = -4 ∨ ∃ t : Nat, t < nd ∧ a ≠ t ∧ b = nI t := by
        by_cases q : b = -4
        · exact Or.inl q
        · obtain ⟨t, ht, rfl⟩ := (hasV_cases (by omega) b).resolve_left (n2 q)
          exact Or.inr ⟨t, ht, fun e9 => n3 (by rw [e9]), rfl⟩
      refine ⟨nI np, ui (ui (ui (ui (ui (ui M 16 np (nI a)) 17 np b) 18 np (nI c)) 19 np (nI d)) 20 np (nI e)) 15 7 (nI (np + 1)), ui (ui (ui (ui (ui (ui (ui (ui (ui (ui (ui (ui (ui M 16 np (nI a)) 17 np b) 18 np (nI c)) 19 np (nI d)) 20 np (nI e)) 15 7 (nI (np + 1))) 84 np (nI a)) 85 np b) 86 np (nI c)) 87 np (nI d)) 88 np (nI e)) 89 np 0) 72 13 (nI (np + 1)), fn_intro ok_X9_pump (Nat.le_of_ble_eq_true rfl) fun G g gr => ?_, fn_intro ok_X10_pump (Nat.le_of_ble_eq_true rfl) fun G g gr => ?_, inv_pump hn ha hb c1 c2 d1 d2 (by omega) i1 i2 i3 i4 i5 i6 i7⟩
      · exact b_X9_pump_0 g gr (by decide) _ _ _ _ _ M ⟨_, _, fhasD s1 _, fun q => absurd q n1, fun _ => ⟨fun _ => ⟨fun _ => ⟨_, _, fn_X9_within _ _ _ _, fun q => absurd q n4, fun _ => ⟨_, _, fn_X9_within _ _ _ _, fun q => absurd q n5, fun _ => ⟨_, _, fn_X9_within _ _ _ _, fun _ => ⟨_, _, fn_X4_add s5 hn _ _ _ _ _, rfl, rfl⟩, fun q => absurd q n6⟩⟩⟩, fun q => absurd q n3⟩, fun n2a => ⟨_, _, fhasD s1 b, fun q => absurd q (n2 n2a), fun _ => ⟨fun _ => ⟨_, _, fn_X9_within _ _ _ _, fun q => absurd q n4, fun _ => ⟨_, _, fn_X9_within _ _ _ _, fun q => absurd q n5, fun _ => ⟨_, _, fn_X9_within _ _ _ _, fun _ => ⟨_, _, fn_X4_add s5 hn _ _ _ _ _, rfl, rfl⟩, fun q => absurd q n6⟩⟩⟩, fun q => absurd q n3⟩⟩⟩⟩
      · have zd : (ui (ui (ui (ui (ui (ui M 16 np (nI a)) 17 np b) 18 np (nI c)) 19 np (nI d)) 20 np (nI e)) 15 7 (nI (np + 1))).1 72 0 = nI nd := by simp [ui_diff]; exact s2
        have z : (ui (ui (ui (ui (ui (ui M 16 np (nI a)) 17 np b) 18 np (nI c)) 19 np (nI d)) 20 np (nI e)) 15 7 (nI (np + 1))).1 72 13 = nI np := by simp [ui_diff]; exact s6
        generalize ui (ui (ui (ui (ui (ui M 16 np (nI a)) 17 np b) 18 np (nI c)) 19 np (nI d)) 20 np (nI e)) 15 7 (nI (np + 1)) = M1 at gr z zd ⊢
        refine b_X10_pump_0 g gr (by decide) _ _ _ _ _ M1 ⟨_, _, fisD (by omega) zd _, fun q => absurd q n1, fun _ => ⟨fun _ => ⟨fun q => absurd q n3, fun _ => ⟨_, _, fin _ 1 1000 rfl rfl M1, fun q => absurd q n4, fun _ => ⟨_, _, fin _ 1 6 rfl rfl M1, fun q => absurd q n5, fun _ => ⟨_, _, fin _ 0 16777215 rfl rfl M1, fun _ => ⟨fun _ => ?_, fun q => ?_⟩, fun q => absurd q n6⟩⟩⟩⟩, fun n2a => ⟨_, _, fisD (by omega) zd b, fun q => absurd q (n2 n2a), fun _ => ⟨fun q => absurd q n3, fun _ => ⟨_, _, fin _ 1 1000 rfl rfl M1, fun q => absurd q n4, fun _ => ⟨_, _, fin _ 1 6 rfl rfl M1, fun q => absurd q n5, fun _ => ⟨_, _, fin _ 0 16777215 rfl rfl M1, fun _ => ⟨fun _ => ?_, fun q => ?_⟩, fun q => absurd q n6⟩⟩⟩⟩⟩⟩⟩
        · rw [z, nI_clamp (by omega)]
          refine ⟨vp_in_nI hn (by omega), ?_⟩
          intro Q1 e1
          have z1 : Q1.1 72 13 = nI np := by rw [e1, ui_diff (by decide)]; exact z
          rw [z1, nI_clamp (by omega)]
          refine ⟨vp_in_nI hn (by omega), ?_⟩
          intro Q2 e2
          have z2 : Q2.1 72 13 = nI np := by rw [e2, ui_diff (by decide)]; exact z1
          rw [z2, nI_clamp (by omega)]
          refine ⟨vp_in_nI hn (by omega), ?_⟩
          intro Q3 e3
          have z3 : Q3.1 72 13 = nI np := by rw [e3, ui_diff (by decide)]; exact z2
          rw [z3, nI_clamp (by omega)]
          refine ⟨vp_in_nI hn (by omega), ?_⟩
          intro Q4 e4
          have z4 : Q4.1 72 13 = nI np := by rw [e4, ui_diff (by decide)]; exact z3
          rw [z4, nI_clamp (by omega)]
          refine ⟨vp_in_nI hn (by omega), ?_⟩
          intro Q5 e5
          have z5 : Q5.1 72 13 = nI np := by rw [e5, ui_diff (by decide)]; exact z4
          rw [z5, nI_clamp (by omega)]
          refine ⟨vp_in_nI hn (by omega), ?_⟩
          intro Q6 e6
          have z6 : Q6.1 72 13 = nI np := by rw [e6, ui_diff (by decide)]; exact z5
          rw [z6, nI_1]
          intro Q7 e7
          have zz : Q7.1 72 13 = nI (np + 1) := by rw [e7, ui_at]
          rw [zz, nI_pred]
          refine ⟨rfl, ?_⟩
          rw [e7, e6, e5, e4, e3, e2, e1, show vp_nar .boolean (0 : Int32) = 0 from rfl]
        · rw [z, show (4 : Int32) = nI 4 from rfl, nI_eq (by omega) (by omega)] at q; omega
        · rw [z, nI_clamp (by omega)]
          refine ⟨vp_in_nI hn (by omega), ?_⟩
          intro Q1 e1
          have z1 : Q1.1 72 13 = nI np := by rw [e1, ui_diff (by decide)]; exact z
          rw [z1, nI_clamp (by omega)]
          refine ⟨vp_in_nI hn (by omega), ?_⟩
          intro Q2 e2
          have z2 : Q2.1 72 13 = nI np := by rw [e2, ui_diff (by decide)]; exact z1
          rw [z2, nI_clamp (by omega)]
          refine ⟨vp_in_nI hn (by omega), ?_⟩
          intro Q3 e3
          have z3 : Q3.1 72 13 = nI np := by rw [e3, ui_diff (by decide)]; exact z2
          rw [z3, nI_clamp (by omega)]
          refine ⟨vp_in_nI hn (by omega), ?_⟩
          intro Q4 e4
          have z4 : Q4.1 72 13 = nI np := by rw [e4, ui_diff (by decide)]; exact z3
          rw [z4, nI_clamp (by omega)]
          refine ⟨vp_in_nI hn (by omega), ?_⟩
          intro Q5 e5
          have z5 : Q5.1 72 13 = nI np := by rw [e5, ui_diff (by decide)]; exact z4
          rw [z5, nI_clamp (by omega)]
          refine ⟨vp_in_nI hn (by omega), ?_⟩
          intro Q6 e6
          have z6 : Q6.1 72 13 = nI np := by rw [e6, ui_diff (by decide)]; exact z5
          rw [z6, nI_1]
          intro Q7 e7
          have zz : Q7.1 72 13 = nI (np + 1) := by rw [e7, ui_at]
          rw [zz, nI_pred]
          refine ⟨rfl, ?_⟩
          rw [e7, e6, e5, e4, e3, e2, e1, show vp_nar .boolean (0 : Int32) = 0 from rfl]
        · rw [z, show (4 : Int32) = nI 4 from rfl, nI_eq (by omega) (by omega)] at q; omega
    · have h8 : np = 4 := by have := i3.p4; omega
      subst h8
      refine ⟨-3, M, M, fn_intro ok_X9_pump (Nat.le_of_ble_eq_true rfl) fun G g gr => ?_, fn_intro ok_X10_pump (Nat.le_of_ble_eq_true rfl) fun G g gr => ?_, I⟩
      · exact b_X9_pump_0 g gr (by decide) _ _ _ _ _ M ⟨_, _, fhasD s1 _, fun q => absurd q n1, fun _ => ⟨fun _ => ⟨fun _ => ⟨_, _, fn_X9_within _ _ _ _, fun q => absurd q n4, fun _ => ⟨_, _, fn_X9_within _ _ _ _, fun q => absurd q n5, fun _ => ⟨_, _, fn_X9_within _ _ _ _, fun _ => ⟨_, _, fn_X4_add_full s5 _ _ _ _ _, rfl, rfl⟩, fun q => absurd q n6⟩⟩⟩, fun q => absurd q n3⟩, fun n2a => ⟨_, _, fhasD s1 b, fun q => absurd q (n2 n2a), fun _ => ⟨fun _ => ⟨_, _, fn_X9_within _ _ _ _, fun q => absurd q n4, fun _ => ⟨_, _, fn_X9_within _ _ _ _, fun q => absurd q n5, fun _ => ⟨_, _, fn_X9_within _ _ _ _, fun _ => ⟨_, _, fn_X4_add_full s5 _ _ _ _ _, rfl, rfl⟩, fun q => absurd q n6⟩⟩⟩, fun q => absurd q n3⟩⟩⟩⟩
      · exact b_X10_pump_0 g gr (by decide) _ _ _ _ _ M ⟨_, _, fisD (by omega) s2 _, fun q => absurd q n1, fun _ => ⟨fun _ => ⟨fun q => absurd q n3, fun _ => ⟨_, _, fin _ 1 1000 rfl rfl M, fun q => absurd q n4, fun _ => ⟨_, _, fin _ 1 6 rfl rfl M, fun q => absurd q n5, fun _ => ⟨_, _, fin _ 0 16777215 rfl rfl M, fun _ => ⟨fun q => absurd s6 q, fun _ => ⟨rfl, rfl⟩⟩, fun q => absurd q n6⟩⟩⟩⟩, fun n2a => ⟨_, _, fisD (by omega) s2 b, fun q => absurd q (n2 n2a), fun _ => ⟨fun q => absurd q n3, fun _ => ⟨_, _, fin _ 1 1000 rfl rfl M, fun q => absurd q n4, fun _ => ⟨_, _, fin _ 1 6 rfl rfl M, fun q => absurd q n5, fun _ => ⟨_, _, fin _ 0 16777215 rfl rfl M, fun _ => ⟨fun q => absurd s6 q, fun _ => ⟨rfl, rfl⟩⟩, fun q => absurd q n6⟩⟩⟩⟩⟩⟩⟩

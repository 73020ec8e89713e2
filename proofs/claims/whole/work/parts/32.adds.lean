theorem fn_X7_add {M : MM} {nw : Nat} (z : M.1 10 4 = nI nw) (hn : nw < 8) (a b c d : Int32) : Fn 1 mX7_add [.ref 10, .int a, .int b, .int c, .int d] M (some (.int (nI nw))) (ui (ui (ui (ui (ui M 11 nw a) 12 nw b) 13 nw c) 14 nw d) 10 4 (nI (nw + 1))) := fn_intro ok_X7_add (Nat.le_of_ble_eq_true rfl) fun G g gr => by
  refine b_X7_add_0 g gr (by decide) a b c d M ⟨fun _ => ?_, fun c => ?_⟩
  · rw [z, nI_clamp (by omega)]
    refine ⟨vp_in_nI hn (by omega), ?_⟩
    intro Q1 e1
    have z1 : Q1.1 10 4 = nI nw := by rw [e1, ui_diff (by decide)]; exact z
    rw [z1, nI_clamp (by omega)]
    refine ⟨vp_in_nI hn (by omega), ?_⟩
    intro Q2 e2
    have z2 : Q2.1 10 4 = nI nw := by rw [e2, ui_diff (by decide)]; exact z1
    rw [z2, nI_clamp (by omega)]
    refine ⟨vp_in_nI hn (by omega), ?_⟩
    intro Q3 e3
    have z3 : Q3.1 10 4 = nI nw := by rw [e3, ui_diff (by decide)]; exact z2
    rw [z3, nI_clamp (by omega)]
    refine ⟨vp_in_nI hn (by omega), ?_⟩
    intro Q4 e4
    have z4 : Q4.1 10 4 = nI nw := by rw [e4, ui_diff (by decide)]; exact z3
    rw [z4, nI_1]
    intro Q5 e5
    refine ⟨rfl, ?_⟩
    rw [e5, e4, e3, e2, e1]
  · exfalso
    apply c
    rw [z]
    exact nI_lt (b := 8) hn (by omega)
theorem fn_X7_add_full {M : MM} (z : M.1 10 4 = nI 8) (a b c d : Int32) : Fn 1 mX7_add [.ref 10, .int a, .int b, .int c, .int d] M (some (.int (-3))) M := fn_intro ok_X7_add (Nat.le_of_ble_eq_true rfl) fun G g gr => by
  refine b_X7_add_0 g gr (by decide) a b c d M ⟨fun c => ?_, fun _ => ⟨rfl, rfl⟩⟩
  rw [z] at c
  exact absurd c (by decide)
theorem fn_X4_add {M : MM} {np : Nat} (z : M.1 15 7 = nI np) (hn : np < 4) (a b c d e : Int32) : Fn 1 mX4_add [.ref 15, .int a, .int b, .int c, .int d, .int e] M (some (.int (nI np))) (ui (ui (ui (ui (ui (ui M 16 np a) 17 np b) 18 np c) 19 np d) 20 np e) 15 7 (nI (np + 1))) := fn_intro ok_X4_add (Nat.le_of_ble_eq_true rfl) fun G g gr => by
  refine b_X4_add_0 g gr (by decide) a b c d e M ⟨fun _ => ?_, fun c => ?_⟩
  · rw [z, nI_clamp (by omega)]
    refine ⟨vp_in_nI hn (by omega), ?_⟩
    intro Q1 e1
    have z1 : Q1.1 15 7 = nI np := by rw [e1, ui_diff (by decide)]; exact z
    rw [z1, nI_clamp (by omega)]
    refine ⟨vp_in_nI hn (by omega), ?_⟩
    intro Q2 e2
    have z2 : Q2.1 15 7 = nI np := by rw [e2, ui_diff (by decide)]; exact z1
    rw [z2, nI_clamp (by omega)]
    refine ⟨vp_in_nI hn (by omega), ?_⟩
    intro Q3 e3
    have z3 : Q3.1 15 7 = nI np := by rw [e3, ui_diff (by decide)]; exact z2
    rw [z3, nI_clamp (by omega)]
    refine ⟨vp_in_nI hn (by omega), ?_⟩
    intro Q4 e4
    have z4 : Q4.1 15 7 = nI np := by rw [e4, ui_diff (by decide)]; exact z3
    rw [z4, nI_clamp (by omega)]
    refine ⟨vp_in_nI hn (by omega), ?_⟩
    intro Q5 e5
    have z5 : Q5.1 15 7 = nI np := by rw [e5, ui_diff (by decide)]; exact z4
    rw [z5, nI_1]
    intro Q6 e6
    refine ⟨rfl, ?_⟩
    rw [e6, e5, e4, e3, e2, e1]
  · exfalso
    apply c
    rw [z]
    exact nI_lt (b := 4) hn (by omega)
theorem fn_X4_add_full {M : MM} (z : M.1 15 7 = nI 4) (a b c d e : Int32) : Fn 1 mX4_add [.ref 15, .int a, .int b, .int c, .int d, .int e] M (some (.int (-3))) M := fn_intro ok_X4_add (Nat.le_of_ble_eq_true rfl) fun G g gr => by
  refine b_X4_add_0 g gr (by decide) a b c d e M ⟨fun c => ?_, fun _ => ⟨rfl, rfl⟩⟩
  rw [z] at c
  exact absurd c (by decide)
theorem fn_X6_add {M : MM} {ns : Nat} (z : M.1 22 3 = nI ns) (hn : ns < 4) (a b : Int32) : Fn 1 mX6_add [.ref 22, .int a, .int b] M (some (.int (nI ns))) (ui (ui (ui M 23 ns a) 24 ns b) 22 3 (nI (ns + 1))) := fn_intro ok_X6_add (Nat.le_of_ble_eq_true rfl) fun G g gr => by
  refine b_X6_add_0 g gr (by decide) a b M ⟨fun _ => ?_, fun c => ?_⟩
  · rw [z, nI_clamp (by omega)]
    refine ⟨vp_in_nI hn (by omega), ?_⟩
    intro Q1 e1
    have z1 : Q1.1 22 3 = nI ns := by rw [e1, ui_diff (by decide)]; exact z
    rw [z1, nI_clamp (by omega)]
    refine ⟨vp_in_nI hn (by omega), ?_⟩
    intro Q2 e2
    have z2 : Q2.1 22 3 = nI ns := by rw [e2, ui_diff (by decide)]; exact z1
    rw [z2, nI_1]
    intro Q3 e3
    refine ⟨rfl, ?_⟩
    rw [e3, e2, e1]
  · exfalso
    apply c
    rw [z]
    exact nI_lt (b := 4) hn (by omega)
theorem fn_X6_add_full {M : MM} (z : M.1 22 3 = nI 4) (a b : Int32) : Fn 1 mX6_add [.ref 22, .int a, .int b] M (some (.int (-3))) M := fn_intro ok_X6_add (Nat.le_of_ble_eq_true rfl) fun G g gr => by
  refine b_X6_add_0 g gr (by decide) a b M ⟨fun c => ?_, fun _ => ⟨rfl, rfl⟩⟩
  rw [z] at c
  exact absurd c (by decide)
theorem inv_weir {M : MM} {nd nw np ns nwd h bb T : Nat} {c : Int32} {a b d : Nat} (hn : nw < 8) (ha : a < nd) (hb : b < nd) (hab : a ≠ b) (d1 : 1 ≤ d) (d2 : d ≤ 50) (i1 : Sz M nd nw np ns nwd h bb) (i2 : Rel M) (i3 : VLd M.1 nd nw np ns) (i4 : VW M nwd) (i5 : VS M) (i6 : WB (M.1 7) nd (100000 * nd + 30000 * h)) (i7 : h ≤ T) :
    Inv (ui (ui (ui (ui (ui (ui (ui (ui (ui (ui M 11 nw (nI a)) 12 nw (nI b)) 13 nw c) 14 nw (nI d)) 10 4 (nI (nw + 1))) 80 nw (nI a)) 81 nw (nI b)) 82 nw c) 83 nw (nI d)) 72 8 (nI (nw + 1))) T := by
  generalize hM : ui (ui (ui (ui (ui (ui (ui (ui (ui (ui M 11 nw (nI a)) 12 nw (nI b)) 13 nw c) 14 nw (nI d)) 10 4 (nI (nw + 1))) 80 nw (nI a)) 81 nw (nI b)) 82 nw c) 83 nw (nI d)) 72 8 (nI (nw + 1)) = M2
  have hor : ∀ k, k ≠ 11 → k ≠ 12 → k ≠ 13 → k ≠ 14 → k ≠ 10 → ¬ (72 ≤ k ∧ k ≤ 83) → M2.1 k = M.1 k := fun k q1 q2 q3 q4 q5 q6 => by rw [← hM, ui_diff (by omega), ui_diff (by omega), ui_diff (by omega), ui_diff (by omega), ui_diff (by omega), ui_diff (by omega), ui_diff (by omega), ui_diff (by omega), ui_diff (by omega), ui_diff (by omega)]
  refine ⟨nd, nw + 1, np, ns, nwd, h, bb, ?_, ?_, ?_, i4.congr (fun k hk => hor k (by omega) (by omega) (by omega) (by omega) (by omega) (by omega)), i5.congr (fun k hk => hor k (by omega) (by omega) (by omega) (by omega) (by omega) (by omega)), ?_, i7⟩
  · subst hM
    skip
    · obtain ⟨s1, s2, s3, s4, s5, s6, s7, s8, s9, s10, s11, s12, s13, s14, s15, s16, s17⟩ := i1
      refine ⟨?_, ?_, ?_, ?_, ?_, ?_, ?_, ?_, ?_, ?_, s11, ?_, ?_, ?_, ?_, s16, ?_⟩ <;> first | (simp [ui_same, ui_diff, upd]; done) | (simp [ui_same, ui_diff, upd]; assumption)
  · subst hM
    skip
    · intro p hp
      have R := i2
      unfold Rel prs at R
      simp only [List.forall_mem_cons, List.not_mem_nil, false_imp_iff, implies_true, and_true] at R
      unfold prs at hp
      simp only [List.mem_cons, List.not_mem_nil, or_false] at hp
      rcases hp with rfl | rfl | rfl | rfl | rfl | rfl | rfl | rfl | rfl | rfl | rfl | rfl | rfl | rfl | rfl | rfl | rfl | rfl | rfl | rfl | rfl | rfl | rfl | rfl | rfl <;> simp [ui_same, ui_diff, R]
  · have r11 : M2.1 11 = upd (M.1 11) nw (nI a) := by rw [← hM]; simp [ui_same, ui_diff]
    have r12 : M2.1 12 = upd (M.1 12) nw (nI b) := by rw [← hM]; simp [ui_same, ui_diff]
    have r14 : M2.1 14 = upd (M.1 14) nw (nI d) := by rw [← hM]; simp [ui_same, ui_diff]
    unfold VLd
    rw [r11, r12, r14, hor 3 (by decide) (by decide) (by decide) (by decide) (by decide) (by decide), hor 4 (by decide) (by decide) (by decide) (by decide) (by decide) (by decide), hor 5 (by decide) (by decide) (by decide) (by decide) (by decide) (by decide), hor 6 (by decide) (by decide) (by decide) (by decide) (by decide) (by decide), hor 16 (by decide) (by decide) (by decide) (by decide) (by decide) (by decide), hor 17 (by decide) (by decide) (by decide) (by decide) (by decide) (by decide), hor 18 (by decide) (by decide) (by decide) (by decide) (by decide) (by decide), hor 19 (by decide) (by decide) (by decide) (by decide) (by decide) (by decide), hor 20 (by decide) (by decide) (by decide) (by decide) (by decide) (by decide), hor 23 (by decide) (by decide) (by decide) (by decide) (by decide) (by decide), hor 24 (by decide) (by decide) (by decide) (by decide) (by decide) (by decide), hor 25 (by decide) (by decide) (by decide) (by decide) (by decide) (by decide), hor 31 (by decide) (by decide) (by decide) (by decide) (by decide) (by decide)]
    obtain ⟨v1, v2, v3, v4, v5, v6, v7⟩ := i3
    refine ⟨v1, by omega, v3, v4, v5, fun x hx => ?_, v7⟩
    by_cases e : x = nw
    · subst e
      rw [upd_at, upd_at, upd_at]
      exact ⟨a, b, d, ha, hb, hab, d1, d2, rfl, rfl, rfl⟩
    · rw [upd_ne e, upd_ne e, upd_ne e]
      exact v6 x (by omega)
  · rw [hor 7 (by decide) (by decide) (by decide) (by decide) (by decide) (by decide)]
    exact i6
theorem inv_pump {M : MM} {nd nw np ns nwd h bb T : Nat} {b : Int32} {a c d e : Nat} (hn : np < 4) (ha : a < nd) (hb : b = -4 ∨ ∃ t : Nat, t < nd ∧ a ≠ t ∧ b = nI t) (c1 : 1 ≤ c) (c2 : c ≤ 1000) (d1 : 1 ≤ d) (d2 : d ≤ 6) (e2 : e < 16777216) (i1 : Sz M nd nw np ns nwd h bb) (i2 : Rel M) (i3 : VLd M.1 nd nw np ns) (i4 : VW M nwd) (i5 : VS M) (i6 : WB (M.1 7) nd (100000 * nd + 30000 * h)) (i7 : h ≤ T) :
    Inv (ui (ui (ui (ui (ui (ui (ui (ui (ui (ui (ui (ui (ui M 16 np (nI a)) 17 np b) 18 np (nI c)) 19 np (nI d)) 20 np (nI e)) 15 7 (nI (np + 1))) 84 np (nI a)) 85 np b) 86 np (nI c)) 87 np (nI d)) 88 np (nI e)) 89 np 0) 72 13 (nI (np + 1))) T := by
  generalize hM : ui (ui (ui (ui (ui (ui (ui (ui (ui (ui (ui (ui (ui M 16 np (nI a)) 17 np b) 18 np (nI c)) 19 np (nI d)) 20 np (nI e)) 15 7 (nI (np + 1))) 84 np (nI a)) 85 np b) 86 np (nI c)) 87 np (nI d)) 88 np (nI e)) 89 np 0) 72 13 (nI (np + 1)) = M2
  have hor : ∀ k, k ≠ 15 → k ≠ 16 → k ≠ 17 → k ≠ 18 → k ≠ 19 → k ≠ 20 → ¬ (72 ≤ k ∧ k ≤ 89) → M2.1 k = M.1 k := fun k q1 q2 q3 q4 q5 q6 q7 => by rw [← hM, ui_diff (by omega), ui_diff (by omega), ui_diff (by omega), ui_diff (by omega), ui_diff (by omega), ui_diff (by omega), ui_diff (by omega), ui_diff (by omega), ui_diff (by omega), ui_diff (by omega), ui_diff (by omega), ui_diff (by omega), ui_diff (by omega)]
  refine ⟨nd, nw, np + 1, ns, nwd, h, bb, ?_, ?_, ?_, i4.congr (fun k hk => hor k (by omega) (by omega) (by omega) (by omega) (by omega) (by omega) (by omega)), i5.congr (fun k hk => hor k (by omega) (by omega) (by omega) (by omega) (by omega) (by omega) (by omega)), ?_, i7⟩
  · subst hM
    obtain ⟨s1, s2, s3, s4, s5, s6, s7, s8, s9, s10, s11, s12, s13, s14, s15, s16, s17⟩ := i1
    refine ⟨?_, ?_, ?_, ?_, ?_, ?_, ?_, ?_, ?_, ?_, s11, ?_, ?_, ?_, ?_, Nat.lt_of_lt_of_le s16 (Nat.pow_le_pow_right (by omega) (by omega)), fun p hp => ?_⟩
    any_goals first | (simp [ui_same, ui_diff, upd]; done) | (simp [ui_same, ui_diff, upd]; assumption)
    have r89 : (ui (ui (ui (ui (ui (ui (ui (ui (ui (ui (ui (ui (ui M 16 np (nI a)) 17 np b) 18 np (nI c)) 19 np (nI d)) 20 np (nI e)) 15 7 (nI (np + 1))) 84 np (nI a)) 85 np b) 86 np (nI c)) 87 np (nI d)) 88 np (nI e)) 89 np 0) 72 13 (nI (np + 1))).1 89 = upd (M.1 89) np 0 := by simp [ui_same, ui_diff]
    rw [r89]
    by_cases q : p = np
    · subst q
      rw [upd_at]
      unfold bitI
      rw [Nat.testBit_lt_two_pow s16]
      rfl
    · rw [upd_ne q]; exact s17 p hp
  · subst hM
    skip
    · intro p hp
      have R := i2
      unfold Rel prs at R
      simp only [List.forall_mem_cons, List.not_mem_nil, false_imp_iff, implies_true, and_true] at R
      unfold prs at hp
      simp only [List.mem_cons, List.not_mem_nil, or_false] at hp
      rcases hp with rfl | rfl | rfl | rfl | rfl | rfl | rfl | rfl | rfl | rfl | rfl | rfl | rfl | rfl | rfl | rfl | rfl | rfl | rfl | rfl | rfl | rfl | rfl | rfl | rfl <;> simp [ui_same, ui_diff, R]
  · have r16 : M2.1 16 = upd (M.1 16) np (nI a) := by rw [← hM]; simp [ui_same, ui_diff]
    have r17 : M2.1 17 = upd (M.1 17) np b := by rw [← hM]; simp [ui_same, ui_diff]
    have r18 : M2.1 18 = upd (M.1 18) np (nI c) := by rw [← hM]; simp [ui_same, ui_diff]
    have r19 : M2.1 19 = upd (M.1 19) np (nI d) := by rw [← hM]; simp [ui_same, ui_diff]
    have r20 : M2.1 20 = upd (M.1 20) np (nI e) := by rw [← hM]; simp [ui_same, ui_diff]
    unfold VLd
    rw [r16, r17, r18, r19, r20, hor 3 (by decide) (by decide) (by decide) (by decide) (by decide) (by decide) (by decide), hor 4 (by decide) (by decide) (by decide) (by decide) (by decide) (by decide) (by decide), hor 5 (by decide) (by decide) (by decide) (by decide) (by decide) (by decide) (by decide), hor 6 (by decide) (by decide) (by decide) (by decide) (by decide) (by decide) (by decide), hor 11 (by decide) (by decide) (by decide) (by decide) (by decide) (by decide) (by decide), hor 12 (by decide) (by decide) (by decide) (by decide) (by decide) (by decide) (by decide), hor 14 (by decide) (by decide) (by decide) (by decide) (by decide) (by decide) (by decide), hor 23 (by decide) (by decide) (by decide) (by decide) (by decide) (by decide) (by decide), hor 24 (by decide) (by decide) (by decide) (by decide) (by decide) (by decide) (by decide), hor 25 (by decide) (by decide) (by decide) (by decide) (by decide) (by decide) (by decide), hor 31 (by decide) (by decide) (by decide) (by decide) (by decide) (by decide) (by decide)]
    obtain ⟨v1, v2, v3, v4, v5, v6, v7, v8⟩ := i3
    refine ⟨v1, v2, by omega, v4, v5, v6, fun x hx => ?_, v8⟩
    by_cases q : x = np
    · subst q
      rw [upd_at, upd_at, upd_at, upd_at, upd_at]
      exact ⟨⟨a, ha, rfl, hb⟩, ⟨c, c1, c2, rfl⟩, ⟨d, d1, d2, rfl⟩, ⟨e, e2, rfl⟩⟩
    · rw [upd_ne q, upd_ne q, upd_ne q, upd_ne q, upd_ne q]
      exact v7 x (by omega)
  · rw [hor 7 (by decide) (by decide) (by decide) (by decide) (by decide) (by decide) (by decide)]
    exact i6
theorem inv_sluice {M : MM} {nd nw np ns nwd h bb T : Nat} {a b : Nat} (hn : ns < 4) (ha : a < nd) (d1 : 1 ≤ b) (d2 : b ≤ 50) (i1 : Sz M nd nw np ns nwd h bb) (i2 : Rel M) (i3 : VLd M.1 nd nw np ns) (i4 : VW M nwd) (i5 : VS M) (i6 : WB (M.1 7) nd (100000 * nd + 30000 * h)) (i7 : h ≤ T) :
    Inv (ui (ui (ui (ui (ui (ui M 23 ns (nI a)) 24 ns (nI b)) 22 3 (nI (ns + 1))) 91 ns (nI a)) 92 ns (nI b)) 72 21 (nI (ns + 1))) T := by
  generalize hM : ui (ui (ui (ui (ui (ui M 23 ns (nI a)) 24 ns (nI b)) 22 3 (nI (ns + 1))) 91 ns (nI a)) 92 ns (nI b)) 72 21 (nI (ns + 1)) = M2
  have hor : ∀ k, k ≠ 22 → k ≠ 23 → k ≠ 24 → ¬ (k = 72 ∨ k = 91 ∨ k = 92) → M2.1 k = M.1 k := fun k q1 q2 q3 q4 => by rw [← hM, ui_diff (by omega), ui_diff (by omega), ui_diff (by omega), ui_diff (by omega), ui_diff (by omega), ui_diff (by omega)]
  refine ⟨nd, nw, np, ns + 1, nwd, h, bb, ?_, ?_, ?_, i4.congr (fun k hk => hor k (by omega) (by omega) (by omega) (by omega)), i5.congr (fun k hk => hor k (by omega) (by omega) (by omega) (by omega)), ?_, i7⟩
  · subst hM
    skip
    · obtain ⟨s1, s2, s3, s4, s5, s6, s7, s8, s9, s10, s11, s12, s13, s14, s15, s16, s17⟩ := i1
      refine ⟨?_, ?_, ?_, ?_, ?_, ?_, ?_, ?_, ?_, ?_, s11, ?_, ?_, ?_, ?_, s16, ?_⟩ <;> first | (simp [ui_same, ui_diff, upd]; done) | (simp [ui_same, ui_diff, upd]; assumption)
  · subst hM
    skip
    · intro p hp
      have R := i2
      unfold Rel prs at R
      simp only [List.forall_mem_cons, List.not_mem_nil, false_imp_iff, implies_true, and_true] at R
      unfold prs at hp
      simp only [List.mem_cons, List.not_mem_nil, or_false] at hp
      rcases hp with rfl | rfl | rfl | rfl | rfl | rfl | rfl | rfl | rfl | rfl | rfl | rfl | rfl | rfl | rfl | rfl | rfl | rfl | rfl | rfl | rfl | rfl | rfl | rfl | rfl <;> simp [ui_same, ui_diff, R]
  · have r23 : M2.1 23 = upd (M.1 23) ns (nI a) := by rw [← hM]; simp [ui_same, ui_diff]
    have r24 : M2.1 24 = upd (M.1 24) ns (nI b) := by rw [← hM]; simp [ui_same, ui_diff]
    unfold VLd
    rw [r23, r24, hor 3 (by decide) (by decide) (by decide) (by decide), hor 4 (by decide) (by decide) (by decide) (by decide), hor 5 (by decide) (by decide) (by decide) (by decide), hor 6 (by decide) (by decide) (by decide) (by decide), hor 11 (by decide) (by decide) (by decide) (by decide), hor 12 (by decide) (by decide) (by decide) (by decide), hor 14 (by decide) (by decide) (by decide) (by decide), hor 16 (by decide) (by decide) (by decide) (by decide), hor 17 (by decide) (by decide) (by decide) (by decide), hor 18 (by decide) (by decide) (by decide) (by decide), hor 19 (by decide) (by decide) (by decide) (by decide), hor 20 (by decide) (by decide) (by decide) (by decide), hor 25 (by decide) (by decide) (by decide) (by decide), hor 31 (by decide) (by decide) (by decide) (by decide)]
    obtain ⟨v1, v2, v3, v4, v5, v6, v7, v8, v9⟩ := i3
    refine ⟨v1, v2, v3, by omega, v5, v6, v7, fun x hx => ?_, v9⟩
    by_cases q : x = ns
    · subst q
      rw [upd_at, upd_at]
      exact ⟨⟨a, ha, rfl⟩, ⟨b, d1, d2, rfl⟩⟩
    · rw [upd_ne q, upd_ne q]
      exact v8 x (by omega)
  · rw [hor 7 (by decide) (by decide) (by decide) (by decide)]
    exact i6

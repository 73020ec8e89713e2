/-! the model: what it keeps and gives back -/
section mkeep
variable {M : MM}
theorem fn_keeps : ∃ M', Fn 1 mX10_keeps [.ref 72] M none M' ∧ (∀ j, ¬ (100 ≤ j ∧ j ≤ 102) → M'.1 j = M.1 j) ∧ M'.2 = M.2 ∧ ∀ i, i < 6 → M'.1 100 i = M.1 75 i ∧ M'.1 101 i = M.1 78 i ∧ M'.1 102 i = M.1 79 i := by
  have st : ∀ c, c ≤ 6 → ∃ N : MM, (∀ G, Good G mX10_keeps 1 → ∀ r C, GoodR G r C → At_X10_keeps_2 G (nI c) N → At_X10_keeps_2 G 0 M) ∧ (∀ j, ¬ (100 ≤ j ∧ j ≤ 102) → N.1 j = M.1 j) ∧ N.2 = M.2 ∧ ∀ i, i < c → N.1 100 i = M.1 75 i ∧ N.1 101 i = M.1 78 i ∧ N.1 102 i = M.1 79 i := by
    intro c
    induction c with
    | zero => exact fun _ => ⟨M, fun G g r C gr h => h, fun _ _ => rfl, rfl, fun i hi => absurd hi (by omega)⟩
    | succ c ih =>
      intro hc
      obtain ⟨N, k1, k2, k3, k4⟩ := ih (by omega)
      have cc : (nI c).toNatClampNeg = c := nI_clamp (by omega)
      refine ⟨ui (ui (ui N 100 c (N.1 75 c)) 101 c (N.1 78 c)) 102 c (N.1 79 c), fun G g r C gr h => k1 G g r C gr ?_, fun j hj => ?_, k3, fun i hi => ?_⟩
      · refine b_X10_keeps_2 g gr (by decide) _ N ⟨fun c9 => absurd c9 ?_, fun _ => ⟨vp_in_nI (by omega) (by omega), ?_⟩⟩
        · rw [show (6 : Int32) = nI 6 from rfl, nI_leI (by omega) (by omega)]; omega
        · rw [cc]
          intro Q1 e1 Q2 e2 Q3 e3 y ey
          rw [e3, e2, e1, ey, nI_1, ui_diff (show 78 ≠ 100 by decide), ui_diff (show 79 ≠ 101 by decide), ui_diff (show 79 ≠ 100 by decide)]
          exact h
      · rw [ui_diff (by omega), ui_diff (by omega), ui_diff (by omega)]
        exact k2 j hj
      · rw [ui_diff (show 100 ≠ 102 by decide), ui_diff (show 100 ≠ 101 by decide), ui_same, ui_diff (show 101 ≠ 102 by decide), ui_same, ui_diff (show 101 ≠ 100 by decide), ui_same, ui_diff (show 102 ≠ 101 by decide), ui_diff (show 102 ≠ 100 by decide)]
        by_cases e : i = c
        · subst e
          rw [upd_at, upd_at, upd_at, k2 75 (by omega), k2 78 (by omega), k2 79 (by omega)]
          exact ⟨rfl, rfl, rfl⟩
        · rw [upd_ne e, upd_ne e, upd_ne e]
          exact k4 i (by omega)
  obtain ⟨N, k1, k2, k3, k4⟩ := st 6 (Nat.le_refl _)
  exact ⟨N, fn_intro ok_X10_keeps (Nat.le_of_ble_eq_true rfl) fun G g gr => b_X10_keeps_0 g gr (by decide) M (k1 G g _ _ gr (b_X10_keeps_2 g gr (by decide) _ N ⟨fun _ => ⟨rfl, rfl⟩, fun c => absurd (by decide) c⟩)), k2, k3, k4⟩
theorem fn_gives : ∃ M', Fn 1 mX10_gives [.ref 72] M none M' ∧ (∀ j, j ≠ 75 → j ≠ 78 → j ≠ 79 → M'.1 j = M.1 j) ∧ M'.2 = M.2 ∧ M'.1 75 = pre 6 (M.1 100) (M.1 75) ∧ M'.1 78 = pre 6 (M.1 101) (M.1 78) ∧ M'.1 79 = pre 6 (M.1 102) (M.1 79) := by
  have st : ∀ c, c ≤ 6 → ∃ N : MM, (∀ G, Good G mX10_gives 1 → ∀ r C, GoodR G r C → At_X10_gives_2 G (nI c) N → At_X10_gives_2 G 0 M) ∧ (∀ j, j ≠ 75 → j ≠ 78 → j ≠ 79 → N.1 j = M.1 j) ∧ N.2 = M.2 ∧ N.1 75 = pre c (M.1 100) (M.1 75) ∧ N.1 78 = pre c (M.1 101) (M.1 78) ∧ N.1 79 = pre c (M.1 102) (M.1 79) := by
    intro c
    induction c with
    | zero => exact fun _ => ⟨M, fun G g r C gr h => h, fun _ _ _ _ => rfl, rfl, (pre_0 _ _).symm, (pre_0 _ _).symm, (pre_0 _ _).symm⟩
    | succ c ih =>
      intro hc
      obtain ⟨N, k1, k2, k3, k4, k5, k6⟩ := ih (by omega)
      have cc : (nI c).toNatClampNeg = c := nI_clamp (by omega)
      refine ⟨ui (ui (ui N 75 c (N.1 100 c)) 78 c (N.1 101 c)) 79 c (N.1 102 c), fun G g r C gr h => k1 G g r C gr ?_, fun j h1 h2 h3 => ?_, k3, ?_, ?_, ?_⟩
      · refine b_X10_gives_2 g gr (by decide) _ N ⟨fun c9 => absurd c9 ?_, fun _ => ⟨vp_in_nI (by omega) (by omega), ?_⟩⟩
        · rw [show (6 : Int32) = nI 6 from rfl, nI_leI (by omega) (by omega)]; omega
        · rw [cc]
          intro Q1 e1 Q2 e2 Q3 e3 y ey
          rw [e3, e2, e1, ey, nI_1, ui_diff (show 101 ≠ 75 by decide), ui_diff (show 102 ≠ 78 by decide), ui_diff (show 102 ≠ 75 by decide)]
          exact h
      · rw [ui_diff h3, ui_diff h2, ui_diff h1]
        exact k2 j h1 h2 h3
      · rw [ui_diff (by decide), ui_diff (by decide), ui_same, k4, k2 100 (by decide) (by decide) (by decide)]
        exact pre_s _ _ _
      · rw [ui_diff (by decide), ui_same, ui_diff (by decide), k5, k2 101 (by decide) (by decide) (by decide)]
        exact pre_s _ _ _
      · rw [ui_same, ui_diff (by decide), ui_diff (by decide), k6, k2 102 (by decide) (by decide) (by decide)]
        exact pre_s _ _ _
  obtain ⟨N, k1, k2, k3, k4⟩ := st 6 (Nat.le_refl _)
  exact ⟨N, fn_intro ok_X10_gives (Nat.le_of_ble_eq_true rfl) fun G g gr => b_X10_gives_0 g gr (by decide) M (k1 G g _ _ gr (b_X10_gives_2 g gr (by decide) _ N ⟨fun _ => ⟨rfl, rfl⟩, fun c => absurd (by decide) c⟩)), k2, k3, k4⟩
theorem ix4 {c a : Nat} : (nI a + nI c : Int32) = nI (a + c) := nI_add _ _
theorem fn_keepsPassed : ∃ M', Fn 1 mX10_keepsPassed [.ref 72] M none M' ∧ (∀ j, j ≠ 103 → M'.1 j = M.1 j) ∧ M'.2 = M.2 ∧ ∀ i, i < 4 → M'.1 103 i = M.1 96 i ∧ M'.1 103 (4 + i) = M.1 96 (4 + i) ∧ M'.1 103 (8 + i) = M.1 97 i ∧ M'.1 103 (12 + i) = M.1 98 i := by
  have st : ∀ c, c ≤ 4 → ∃ N : MM, (∀ G, Good G mX10_keepsPassed 1 → ∀ r C, GoodR G r C → At_X10_keepsPassed_2 G (nI c) N → At_X10_keepsPassed_2 G 0 M) ∧ (∀ j, j ≠ 103 → N.1 j = M.1 j) ∧ N.2 = M.2 ∧ ∀ i, i < c → N.1 103 i = M.1 96 i ∧ N.1 103 (4 + i) = M.1 96 (4 + i) ∧ N.1 103 (8 + i) = M.1 97 i ∧ N.1 103 (12 + i) = M.1 98 i := by
    intro c
    induction c with
    | zero => exact fun _ => ⟨M, fun G g r C gr h => h, fun _ _ => rfl, rfl, fun i hi => absurd hi (by omega)⟩
    | succ c ih =>
      intro hc
      obtain ⟨N, k1, k2, k3, k4⟩ := ih (by omega)
      have cc : (nI c).toNatClampNeg = c := nI_clamp (by omega)
      refine ⟨ui (ui (ui (ui N 103 c (N.1 96 c)) 103 (4 + c) (N.1 96 (4 + c))) 103 (8 + c) (N.1 97 c)) 103 (12 + c) (N.1 98 c), fun G g r C gr h => k1 G g r C gr ?_, fun j hj => ?_, k3, fun i hi => ?_⟩
      · refine b_X10_keepsPassed_2 g gr (by decide) _ N ⟨fun c9 => absurd c9 ?_, fun _ => ⟨vp_in_nI (by omega) (by omega), vp_in_nI (by omega) (by omega), ?_⟩⟩
        · rw [show (4 : Int32) = nI 4 from rfl, nI_leI (by omega) (by omega)]; omega
        · rw [show (4 : Int32) = nI 4 from rfl, show (8 : Int32) = nI 8 from rfl, show (12 : Int32) = nI 12 from rfl, nI_add, nI_add, nI_add, cc, nI_clamp (show 4 + c < 2 ^ 31 by omega), nI_clamp (show 8 + c < 2 ^ 31 by omega), nI_clamp (show 12 + c < 2 ^ 31 by omega)]
          intro Q1 e1
          refine ⟨vp_in_nI (by omega) (by omega), vp_in_nI (by omega) (by omega), ?_⟩
          intro Q2 e2
          refine ⟨vp_in_nI (by omega) (by omega), vp_in_nI (by omega) (by omega), ?_⟩
          intro Q3 e3
          refine ⟨vp_in_nI (by omega) (by omega), ?_⟩
          intro Q4 e4 y ey
          rw [e4, e3, e2, e1, ey, nI_1]
          have n1 : (ui N 103 c (N.1 96 c)).1 96 = N.1 96 := ui_diff (by decide)
          have n2 : (ui (ui N 103 c (N.1 96 c)) 103 (4 + c) (N.1 96 (4 + c))).1 97 = N.1 97 := by rw [ui_diff (by decide), ui_diff (by decide)]
          have n3 : (ui (ui (ui N 103 c (N.1 96 c)) 103 (4 + c) (N.1 96 (4 + c))) 103 (8 + c) (N.1 97 c)).1 98 = N.1 98 := by rw [ui_diff (by decide), ui_diff (by decide), ui_diff (by decide)]
          rw [n1, n2, n3]
          exact h
      · rw [ui_diff hj, ui_diff hj, ui_diff hj, ui_diff hj]
        exact k2 j hj
      · rw [ui_same, ui_same, ui_same, ui_same]
        by_cases e : i = c
        · subst e
          rw [upd_ne (by omega), upd_ne (by omega), upd_ne (by omega), upd_at, upd_ne (by omega), upd_ne (by omega), upd_at, upd_ne (by omega), upd_at, upd_at, k2 96 (by omega), k2 97 (by omega), k2 98 (by omega)]
          exact ⟨rfl, rfl, rfl, rfl⟩
        · obtain ⟨q1, q2, q3, q4⟩ := k4 i (by omega)
          refine ⟨?_, ?_, ?_, ?_⟩
          · rw [upd_ne (by omega), upd_ne (by omega), upd_ne (by omega), upd_ne (by omega)]; exact q1
          · rw [upd_ne (by omega), upd_ne (by omega), upd_ne (by omega), upd_ne (by omega)]; exact q2
          · rw [upd_ne (by omega), upd_ne (by omega), upd_ne (by omega), upd_ne (by omega)]; exact q3
          · rw [upd_ne (by omega), upd_ne (by omega), upd_ne (by omega), upd_ne (by omega)]; exact q4
  obtain ⟨N, k1, k2, k3, k4⟩ := st 4 (Nat.le_refl _)
  exact ⟨N, fn_intro ok_X10_keepsPassed (Nat.le_of_ble_eq_true rfl) fun G g gr => b_X10_keepsPassed_0 g gr (by decide) M (k1 G g _ _ gr (b_X10_keepsPassed_2 g gr (by decide) _ N ⟨fun _ => ⟨rfl, rfl⟩, fun c => absurd (by decide) c⟩)), k2, k3, k4⟩
theorem fn_givesPassed : ∃ M', Fn 1 mX10_givesPassed [.ref 72] M none M' ∧ (∀ j, j ≠ 96 → j ≠ 97 → j ≠ 98 → M'.1 j = M.1 j) ∧ M'.2 = M.2 ∧ (∀ i, M'.1 96 i = if i < 8 then M.1 103 i else M.1 96 i) ∧ (∀ i, M'.1 97 i = if i < 4 then M.1 103 (8 + i) else M.1 97 i) ∧ ∀ i, M'.1 98 i = if i < 4 then M.1 103 (12 + i) else M.1 98 i := by
  have st : ∀ c, c ≤ 4 → ∃ N : MM, (∀ G, Good G mX10_givesPassed 1 → ∀ r C, GoodR G r C → At_X10_givesPassed_2 G (nI c) N → At_X10_givesPassed_2 G 0 M) ∧ (∀ j, j ≠ 96 → j ≠ 97 → j ≠ 98 → N.1 j = M.1 j) ∧ N.2 = M.2 ∧ (∀ i, N.1 96 i = if i < c ∨ (4 ≤ i ∧ i < 4 + c) then M.1 103 i else M.1 96 i) ∧ (∀ i, N.1 97 i = if i < c then M.1 103 (8 + i) else M.1 97 i) ∧ ∀ i, N.1 98 i = if i < c then M.1 103 (12 + i) else M.1 98 i := by
    intro c
    induction c with
    | zero => exact fun _ => ⟨M, fun G g r C gr h => h, fun _ _ _ _ => rfl, rfl, fun i => by rw [if_neg (by omega)], fun i => by rw [if_neg (by omega)], fun i => by rw [if_neg (by omega)]⟩
    | succ c ih =>
      intro hc
      obtain ⟨N, k1, k2, k3, k4, k5, k6⟩ := ih (by omega)
      have cc : (nI c).toNatClampNeg = c := nI_clamp (by omega)
      have e103 : N.1 103 = M.1 103 := k2 103 (by decide) (by decide) (by decide)
      refine ⟨ui (ui (ui (ui N 96 c (N.1 103 c)) 96 (4 + c) (N.1 103 (4 + c))) 97 c (N.1 103 (8 + c))) 98 c (N.1 103 (12 + c)), fun G g r C gr h => k1 G g r C gr ?_, fun j h1 h2 h3 => ?_, k3, fun i => ?_, fun i => ?_, fun i => ?_⟩
      · refine b_X10_givesPassed_2 g gr (by decide) _ N ⟨fun c9 => absurd c9 ?_, fun _ => ⟨vp_in_nI (by omega) (by omega), vp_in_nI (by omega) (by omega), ?_⟩⟩
        · rw [show (4 : Int32) = nI 4 from rfl, nI_leI (by omega) (by omega)]; omega
        · rw [show (4 : Int32) = nI 4 from rfl, show (8 : Int32) = nI 8 from rfl, show (12 : Int32) = nI 12 from rfl, nI_add, nI_add, nI_add, cc, nI_clamp (show 4 + c < 2 ^ 31 by omega), nI_clamp (show 8 + c < 2 ^ 31 by omega), nI_clamp (show 12 + c < 2 ^ 31 by omega)]
          intro Q1 e1
          refine ⟨vp_in_nI (by omega) (by omega), vp_in_nI (by omega) (by omega), ?_⟩
          intro Q2 e2
          refine ⟨vp_in_nI (by omega) (by omega), vp_in_nI (by omega) (by omega), ?_⟩
          intro Q3 e3
          refine ⟨vp_in_nI (by omega) (by omega), ?_⟩
          intro Q4 e4 y ey
          rw [e4, e3, e2, e1, ey, nI_1]
          have n1 : (ui N 96 c (N.1 103 c)).1 103 = N.1 103 := ui_diff (by decide)
          have n2 : (ui (ui N 96 c (N.1 103 c)) 96 (4 + c) (N.1 103 (4 + c))).1 103 = N.1 103 := by rw [ui_diff (by decide), ui_diff (by decide)]
          have n3 : (ui (ui (ui N 96 c (N.1 103 c)) 96 (4 + c) (N.1 103 (4 + c))) 97 c (N.1 103 (8 + c))).1 103 = N.1 103 := by rw [ui_diff (by decide), ui_diff (by decide), ui_diff (by decide)]
          rw [n1, n2, n3]
          exact h
      · rw [ui_diff h3, ui_diff h2, ui_diff h1, ui_diff h1]
        exact k2 j h1 h2 h3
      · rw [ui_diff (by decide), ui_diff (by decide), ui_same, ui_same, e103]
        by_cases e : i = 4 + c
        · subst e; rw [upd_at, if_pos (by omega)]
        · rw [upd_ne e]
          by_cases e2 : i = c
          · subst e2; rw [upd_at, if_pos (by omega)]
          · rw [upd_ne e2, k4 i]
            by_cases q : i < c ∨ (4 ≤ i ∧ i < 4 + c)
            · rw [if_pos q, if_pos (by omega)]
            · rw [if_neg q, if_neg (by omega)]
      · rw [ui_diff (by decide), ui_same, ui_diff (by decide), ui_diff (by decide), e103]
        by_cases e : i = c
        · subst e; rw [upd_at, if_pos (by omega)]
        · rw [upd_ne e, k5 i]
          by_cases q : i < c
          · rw [if_pos q, if_pos (by omega)]
          · rw [if_neg q, if_neg (by omega)]
      · rw [ui_same, ui_diff (by decide), ui_diff (by decide), ui_diff (by decide), e103]
        by_cases e : i = c
        · subst e; rw [upd_at, if_pos (by omega)]
        · rw [upd_ne e, k6 i]
          by_cases q : i < c
          · rw [if_pos q, if_pos (by omega)]
          · rw [if_neg q, if_neg (by omega)]
  obtain ⟨N, k1, k2, k3, k4, k5, k6⟩ := st 4 (Nat.le_refl _)
  refine ⟨N, fn_intro ok_X10_givesPassed (Nat.le_of_ble_eq_true rfl) fun G g gr => b_X10_givesPassed_0 g gr (by decide) M (k1 G g _ _ gr (b_X10_givesPassed_2 g gr (by decide) _ N ⟨fun _ => ⟨rfl, rfl⟩, fun c => absurd (by decide) c⟩)), k2, k3, fun i => ?_, k5, k6⟩
  rw [k4 i]
  by_cases q : i < 8
  · rw [if_pos q, if_pos (by omega)]
  · rw [if_neg q, if_neg (by omega)]
end mkeep

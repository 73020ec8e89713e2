/-! ditch -/
def addD (M : MM) (nd : Nat) (a b c : Int32) : MM := ui (ui (ui (ui (ui (ui M 3 nd a) 4 nd b) 5 nd (-1000)) 6 nd 1000) 7 nd c) 2 7 (nI (nd + 1))
def addDm (M : MM) (nd : Nat) (a b c : Int32) : MM := ui (ui (ui (ui (ui (ui M 73 nd a) 74 nd b) 75 nd c) 76 nd (-1000)) 77 nd 1000) 72 0 (nI (nd + 1))
theorem fn_X0_add {M : MM} {nd : Nat} (z : M.1 2 7 = nI nd) (h : nd < 6) (a b c : Int32) : Fn 1 mX0_add [.ref 2, .int a, .int b, .int c] M (some (.int (nI nd))) (addD M nd a b c) := fn_intro ok_X0_add (Nat.le_of_ble_eq_true rfl) fun G g gr => by
  refine b_X0_add_0 g gr (by decide) a b c M ⟨fun _ => ?_, fun c => ?_⟩
  · rw [z, nI_clamp (by omega)]
    refine ⟨vp_in_nI h (by omega), ?_⟩
    intro M3 e3
    have z3 : M3.1 2 7 = nI nd := by rw [e3, ui_diff (by decide)]; exact z
    rw [z3, nI_clamp (by omega)]
    refine ⟨vp_in_nI h (by omega), ?_⟩
    intro M5 e5
    have z5 : M5.1 2 7 = nI nd := by rw [e5, ui_diff (by decide)]; exact z3
    rw [z5, nI_clamp (by omega)]
    refine ⟨vp_in_nI h (by omega), ?_⟩
    intro M7 e7
    have z7 : M7.1 2 7 = nI nd := by rw [e7, ui_diff (by decide)]; exact z5
    rw [z7, nI_clamp (by omega)]
    refine ⟨vp_in_nI h (by omega), ?_⟩
    intro M9 e9
    have z9 : M9.1 2 7 = nI nd := by rw [e9, ui_diff (by decide)]; exact z7
    rw [z9, nI_clamp (by omega)]
    refine ⟨vp_in_nI h (by omega), ?_⟩
    intro M11 e11
    have z11 : M11.1 2 7 = nI nd := by rw [e11, ui_diff (by decide)]; exact z9
    rw [z11, nI_1]
    intro M12 e12
    refine ⟨rfl, ?_⟩
    rw [e12, e11, e9, e7, e5, e3]
    rfl
  · exfalso
    apply c
    rw [z]
    exact nI_lt (b := 6) h (by omega)
theorem fn_X0_full {M : MM} (z : M.1 2 7 = nI 6) (a b c : Int32) : Fn 1 mX0_add [.ref 2, .int a, .int b, .int c] M (some (.int (-3))) M := fn_intro ok_X0_add (Nat.le_of_ble_eq_true rfl) fun G g gr => by
  refine b_X0_add_0 g gr (by decide) a b c M ⟨fun c => ?_, fun _ => ⟨rfl, rfl⟩⟩
  rw [z] at c
  exact absurd c (by decide)
theorem inv_ditch {M : MM} {nd nw np ns nwd h b T : Nat} {a2 a3 : Int32} {A : Nat} (hn : nd < 6) (hA : 1 ≤ A) (hA2 : A ≤ 50) (h2 : -500 ≤ a2.toInt ∧ a2.toInt ≤ 500) (h3 : 0 ≤ a3.toInt ∧ a3.toInt ≤ 100000) (i1 : Sz M nd nw np ns nwd h b) (i2 : Rel M) (i3 : VLd M.1 nd nw np ns) (i4 : VW M nwd) (i5 : VS M) (i6 : WB (M.1 7) nd (100000 * nd + 30000 * h)) (i7 : h ≤ T) :
    Inv (addDm (addD M nd (nI A) a2 a3) nd (nI A) a2 a3) T := by
  obtain ⟨s1, s2, s3, s4, s5, s6, s7, s8, s9, s10, s11, s12, s13, s14, s15, s16, s17⟩ := i1
  refine ⟨nd + 1, nw, np, ns, nwd, h, b, ?_, ?_, ?_, ?_, ?_, ?_, i7⟩
  · unfold addDm addD
    refine ⟨?_, ?_, ?_, ?_, ?_, ?_, ?_, ?_, ?_, ?_, s11, ?_, ?_, ?_, ?_, s16, ?_⟩ <;> first | (simp [ui_same, ui_diff, upd]; done) | (simp [ui_same, ui_diff, upd]; assumption)
  · intro p hp
    unfold addDm addD
    have R := i2
    unfold Rel prs at R
    simp only [List.forall_mem_cons, List.not_mem_nil, false_imp_iff, implies_true, and_true] at R
    unfold prs at hp
    simp only [List.mem_cons, List.not_mem_nil, or_false] at hp
    rcases hp with rfl | rfl | rfl | rfl | rfl | rfl | rfl | rfl | rfl | rfl | rfl | rfl | rfl | rfl | rfl | rfl | rfl | rfl | rfl | rfl | rfl | rfl | rfl | rfl | rfl <;> simp [ui_same, ui_diff, R]
  · have h3r : (addDm (addD M nd (nI A) a2 a3) nd (nI A) a2 a3).1 3 = upd (M.1 3) nd (nI A) := by unfold addDm addD; simp [ui_same, ui_diff]
    have h4r : (addDm (addD M nd (nI A) a2 a3) nd (nI A) a2 a3).1 4 = upd (M.1 4) nd a2 := by unfold addDm addD; simp [ui_same, ui_diff]
    have h5r : (addDm (addD M nd (nI A) a2 a3) nd (nI A) a2 a3).1 5 = upd (M.1 5) nd (-1000) := by unfold addDm addD; simp [ui_same, ui_diff]
    have h6r : (addDm (addD M nd (nI A) a2 a3) nd (nI A) a2 a3).1 6 = upd (M.1 6) nd 1000 := by unfold addDm addD; simp [ui_same, ui_diff]
    have hor : ∀ k, 11 ≤ k ∧ k ≤ 31 → (addDm (addD M nd (nI A) a2 a3) nd (nI A) a2 a3).1 k = M.1 k := fun k hk => by unfold addDm addD; rw [ui_diff (by omega), ui_diff (by omega), ui_diff (by omega), ui_diff (by omega), ui_diff (by omega), ui_diff (by omega), ui_diff (by omega), ui_diff (by omega), ui_diff (by omega), ui_diff (by omega), ui_diff (by omega), ui_diff (by omega)]
    refine ⟨by omega, i3.w8, i3.p4, i3.s4, ?_, ?_, ?_, ?_, ?_, ?_⟩
    · intro d hd
      rw [h3r, h4r, h5r, h6r]
      by_cases e : d = nd
      · subst e
        rw [upd_at, upd_at, upd_at, upd_at]
        exact ⟨⟨A, hA, hA2, rfl⟩, h2.1, h2.2, by decide, by decide, by decide, by decide⟩
      · rw [upd_ne e, upd_ne e, upd_ne e, upd_ne e]
        exact ⟨i3.A (by omega), i3.B (by omega)⟩
    · intro k hk
      rw [hor 11 (by omega), hor 12 (by omega), hor 14 (by omega)]
      obtain ⟨a, b, x, q1, q2, q3⟩ := i3.w hk
      exact ⟨a, b, x, by omega, by omega, q3⟩
    · intro k hk
      rw [hor 16 (by omega), hor 17 (by omega), hor 18 (by omega), hor 19 (by omega), hor 20 (by omega)]
      obtain ⟨a, q1, q2, q3⟩ := i3.p hk
      refine ⟨⟨a, by omega, q2, ?_⟩, i3.r hk, i3.l hk, i3.q hk⟩
      rcases q3 with q3 | ⟨b, q4, q5⟩
      · exact Or.inl q3
      · exact Or.inr ⟨b, by omega, q5⟩
    · intro k hk
      rw [hor 23 (by omega), hor 24 (by omega)]
      obtain ⟨⟨a, q1, q2⟩, q3⟩ := i3.s hk
      exact ⟨⟨a, by omega, q2⟩, q3⟩
    · intro k hk
      rw [hor 25 (by omega)]
      exact i3.o hk
    · intro k hk
      rw [hor 31 (by omega)]
      exact i3.pr hk
  · exact i4.congr (fun k hk => by unfold addDm addD; rw [ui_diff (by omega), ui_diff (by omega), ui_diff (by omega), ui_diff (by omega), ui_diff (by omega), ui_diff (by omega), ui_diff (by omega), ui_diff (by omega), ui_diff (by omega), ui_diff (by omega), ui_diff (by omega), ui_diff (by omega)])
  · exact i5.congr (fun k hk => by unfold addDm addD; rw [ui_diff (by omega), ui_diff (by omega), ui_diff (by omega), ui_diff (by omega), ui_diff (by omega), ui_diff (by omega), ui_diff (by omega), ui_diff (by omega), ui_diff (by omega), ui_diff (by omega), ui_diff (by omega), ui_diff (by omega)])
  · have h7r : (addDm (addD M nd (nI A) a2 a3) nd (nI A) a2 a3).1 7 = upd (M.1 7) nd a3 := by unfold addDm addD; simp [ui_same, ui_diff]
    rw [h7r]
    refine ⟨fun d hd => ?_, ?_⟩
    · by_cases e : d = nd
      · subst e; rw [upd_at]; exact h3.1
      · rw [upd_ne e]; exact i6.1 d (by omega)
    · have t1 : ∀ k, k ≤ nd → tot (upd (M.1 7) nd a3) k = tot (M.1 7) k := by
        intro k
        induction k with
        | zero => intro _; rfl
        | succ k ih => intro hk; unfold tot; rw [ih (by omega), upd_ne (by omega)]
      unfold tot
      rw [t1 nd (Nat.le_refl _), upd_at]
      have := i6.2
      push_cast
      omega
theorem case_ditch {M : MM} {T : Nat} (I : Inv M T) (a b c : Int32) : ∃ (r : Int32) (M1 M2 : MM), Fn 3 mX9_ditch [.ref 0, .int a, .int b, .int c] M (some (.int r)) M1 ∧ Fn 2 mX10_ditch [.ref 72, .int a, .int b, .int c] M1 (some (.int r)) M2 ∧ Inv M2 T := by
  obtain ⟨nd, nw, np, ns, nwd, h, bb, i1, i2, i3, i4, i5, i6, i7⟩ := id I
  obtain ⟨s1, s2, s3⟩ := id i1
  by_cases bad : wth a 1 50 = 0 ∨ wth b (-500) 500 = 0 ∨ wth c 0 100000 = 0
  · refine ⟨-1, M, M, fn_intro ok_X9_ditch (Nat.le_of_ble_eq_true rfl) fun G g gr => ?_, fn_intro ok_X10_ditch (Nat.le_of_ble_eq_true rfl) fun G g gr => ?_, I⟩
    · refine b_X9_ditch_0 g gr (by decide) a b c M ⟨_, _, fn_X9_within _ _ _ _, fun _ => ⟨rfl, rfl⟩, fun n1 => ⟨_, _, fn_X9_isHeight _ _, fun _ => ⟨rfl, rfl⟩, fun n2 => ⟨_, _, fn_X9_within _ _ _ _, fun n3 => ?_, fun _ => ⟨rfl, rfl⟩⟩⟩⟩
      rcases bad with h | h | h
      · exact absurd h n1
      · exact absurd h n2
      · exact absurd h n3
    · refine b_X10_ditch_0 g gr (by decide) a b c M ⟨_, _, fin a 1 50 rfl rfl M, fun _ => ⟨rfl, rfl⟩, fun n1 => ⟨_, _, fin b (-500) 500 rfl rfl M, fun _ => ⟨rfl, rfl⟩, fun n2 => ⟨_, _, fin c 0 100000 rfl rfl M, fun n3 => ?_, fun _ => ⟨rfl, rfl⟩⟩⟩⟩
      rcases bad with h | h | h
      · exact absurd h n1
      · exact absurd h n2
      · exact absurd h n3
  · have n1 : ¬ wth a 1 50 = 0 := fun e => bad (Or.inl e)
    have n2 : ¬ wth b (-500) 500 = 0 := fun e => bad (Or.inr (Or.inl e))
    have n3 : ¬ wth c 0 100000 = 0 := fun e => bad (Or.inr (Or.inr e))
    rcases Nat.lt_or_ge nd 6 with hn | hn
    · obtain ⟨A, A1, A2, rfl⟩ := toNI (lo := 1) (hi := 50) (by omega) (by omega) n1
      have b1 := wth_toInt n2
      have c1 := wth_toInt n3
      refine ⟨nI nd, addD M nd (nI A) b c, addDm (addD M nd (nI A) b c) nd (nI A) b c, fn_intro ok_X9_ditch (Nat.le_of_ble_eq_true rfl) fun G g gr => ?_, fn_intro ok_X10_ditch (Nat.le_of_ble_eq_true rfl) fun G g gr => ?_, inv_ditch hn A1 A2 b1 c1 i1 i2 i3 i4 i5 i6 i7⟩
      · exact b_X9_ditch_0 g gr (by decide) _ b c M ⟨_, _, fn_X9_within _ _ _ _, fun e => absurd e n1, fun _ => ⟨_, _, fn_X9_isHeight _ _, fun e => absurd e n2, fun _ => ⟨_, _, fn_X9_within _ _ _ _, fun _ => ⟨_, _, fn_X0_add s1 hn _ _ _, rfl, rfl⟩, fun e => absurd e n3⟩⟩⟩
      · generalize hM1 : addD M nd (nI A) b c = M1 at gr
        have z : M1.1 72 0 = nI nd := by rw [← hM1]; unfold addD; simp [ui_diff]; exact s2
        refine b_X10_ditch_0 g gr (by decide) _ b c M1 ⟨_, _, fin (nI A) 1 50 rfl rfl M1, fun e => absurd e n1, fun _ => ⟨_, _, fin b (-500) 500 rfl rfl M1, fun e => absurd e n2, fun _ => ⟨_, _, fin c 0 100000 rfl rfl M1, fun _ => ⟨fun _ => ?_, fun e => ?_⟩, fun e => absurd e n3⟩⟩⟩
        · rw [z, nI_clamp (by omega)]
          refine ⟨vp_in_nI hn (by omega), ?_⟩
          intro M3 e3
          have z3 : M3.1 72 0 = nI nd := by rw [e3, ui_diff (by decide)]; exact z
          rw [z3, nI_clamp (by omega)]
          refine ⟨vp_in_nI hn (by omega), ?_⟩
          intro M5 e5
          have z5 : M5.1 72 0 = nI nd := by rw [e5, ui_diff (by decide)]; exact z3
          rw [z5, nI_clamp (by omega)]
          refine ⟨vp_in_nI hn (by omega), ?_⟩
          intro M7 e7
          have z7 : M7.1 72 0 = nI nd := by rw [e7, ui_diff (by decide)]; exact z5
          rw [z7, nI_clamp (by omega)]
          refine ⟨vp_in_nI hn (by omega), ?_⟩
          intro M9 e9
          have z9 : M9.1 72 0 = nI nd := by rw [e9, ui_diff (by decide)]; exact z7
          rw [z9, nI_clamp (by omega)]
          refine ⟨vp_in_nI hn (by omega), ?_⟩
          intro M11 e11
          have z11 : M11.1 72 0 = nI nd := by rw [e11, ui_diff (by decide)]; exact z9
          rw [z11, nI_1]
          intro M12 e12
          have z12 : M12.1 72 0 = nI (nd + 1) := by rw [e12, ui_at]
          rw [z12]
          refine ⟨?_, ?_⟩
          · rw [nI_pred]
          · rw [e12, e11, e9, e7, e5, e3]
            rfl
        · rw [z, show (6 : Int32) = nI 6 from rfl, nI_eq (by omega) (by omega)] at e; omega
    · have h6 : nd = 6 := by have := i3.d6; omega
      subst h6
      refine ⟨-3, M, M, fn_intro ok_X9_ditch (Nat.le_of_ble_eq_true rfl) fun G g gr => ?_, fn_intro ok_X10_ditch (Nat.le_of_ble_eq_true rfl) fun G g gr => ?_, I⟩
      · exact b_X9_ditch_0 g gr (by decide) _ b c M ⟨_, _, fn_X9_within _ _ _ _, fun e => absurd e n1, fun _ => ⟨_, _, fn_X9_isHeight _ _, fun e => absurd e n2, fun _ => ⟨_, _, fn_X9_within _ _ _ _, fun _ => ⟨_, _, fn_X0_full s1 _ _ _, rfl, rfl⟩, fun e => absurd e n3⟩⟩⟩
      · exact b_X10_ditch_0 g gr (by decide) _ b c M ⟨_, _, fin a 1 50 rfl rfl M, fun e => absurd e n1, fun _ => ⟨_, _, fin b (-500) 500 rfl rfl M, fun e => absurd e n2, fun _ => ⟨_, _, fin c 0 100000 rfl rfl M, fun _ => ⟨fun e => absurd s2 e, fun _ => ⟨rfl, rfl⟩⟩, fun e => absurd e n3⟩⟩⟩

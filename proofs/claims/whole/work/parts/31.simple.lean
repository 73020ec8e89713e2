/-! band, told, tide, price, open, passed, count -/
theorem Inv.rows {M M' : MM} {T : Nat} (I : Inv M T) (h : ∀ k, k ≠ 37 → ¬ (39 ≤ k ∧ k < 64) → M'.1 k = M.1 k) : Inv M' T := by
  obtain ⟨nd, nw, np, ns, nwd, hh, b, ⟨s1, s2, s3, s4, s5, s6, s7, s8, s9, s10, s11, s12, s13, s14, s15, s16, s17⟩, i2, i3, i4, i5, i6, i7⟩ := I
  have hr : ∀ k ∈ rowL, M.1 k = M'.1 k := fun k hk => by
    have := rowL_le k hk
    rw [h k (by omega) (by omega)]
  refine ⟨nd, nw, np, ns, nwd, hh, b, ?_, ?_, i3.congr hr, i4.congr (fun k hk => h k (by omega) (by omega)), i5.congr (fun k hk => h k (by omega) (by omega)), ?_, i7⟩
  · unfold Sz
    rw [h 2 (by decide) (by decide), h 72 (by decide) (by decide), h 10 (by decide) (by decide), h 15 (by decide) (by decide), h 22 (by decide) (by decide), h 32 (by decide) (by decide), h 1 (by decide) (by decide), h 89 (by decide) (by decide)]
    exact ⟨s1, s2, s3, s4, s5, s6, s7, s8, s9, s10, s11, s12, s13, s14, s15, s16, s17⟩
  · intro p hp
    have h1 : ∀ p ∈ prs, p.1 ≠ 37 ∧ ¬ (39 ≤ p.1 ∧ p.1 < 64) ∧ p.2 ≠ 37 ∧ ¬ (39 ≤ p.2 ∧ p.2 < 64) := by decide
    obtain ⟨q1, q2, q3, q4⟩ := h1 p hp
    rw [h _ q1 q2, h _ q3 q4]
    exact i2 p hp
  · rw [h 7 (by decide) (by decide)]
    exact i6
theorem case_band {M : MM} {T : Nat} (I : Inv M T) (a b c : Int32) : ∃ (r : Int32) (M1 M2 : MM), Fn 2 mX9_band [.ref 0, .int a, .int b, .int c] M (some (.int r)) M1 ∧ Fn 3 mX10_band [.ref 72, .int a, .int b, .int c] M1 (some (.int r)) M2 ∧ Inv M2 T := by
  obtain ⟨nd, nw, np, ns, nwd, h, bb, i1, i2, i3, i4, i5, i6, i7⟩ := id I
  obtain ⟨s1, s2, s3, s4, s5, s6, s7, s8, s9, s10, s11, s12, s13, s14, s15, s16, s17⟩ := id i1
  have h6 := i3.d6
  by_cases bad : hasV (nI nd) a = 0 ∨ wth b (-1000) 1000 = 0 ∨ wth c b 1000 = 0
  · refine ⟨-1, M, M, fn_intro ok_X9_band (Nat.le_of_ble_eq_true rfl) fun G g gr => ?_, fn_intro ok_X10_band (Nat.le_of_ble_eq_true rfl) fun G g gr => ?_, I⟩
    · refine b_X9_band_0 g gr (by decide) a b c M ⟨_, _, fhasD s1 a, fun _ => ⟨rfl, rfl⟩, fun n1 => ⟨_, _, fn_X9_within _ _ _ _, fun _ => ⟨rfl, rfl⟩, fun n2 => ⟨_, _, fn_X9_within _ _ _ _, fun n3 => ?_, fun _ => ⟨rfl, rfl⟩⟩⟩⟩
      rcases bad with h | h | h
      · exact absurd h n1
      · exact absurd h n2
      · exact absurd h n3
    · refine b_X10_band_0 g gr (by decide) a b c M ⟨_, _, fisD (by omega) s2 a, fun _ => ⟨rfl, rfl⟩, fun n1 => ⟨_, _, fin b (-1000) 1000 rfl rfl M, fun _ => ⟨rfl, rfl⟩, fun n2 => ⟨_, _, fin c b 1000 rfl rfl M, fun n3 => ?_, fun _ => ⟨rfl, rfl⟩⟩⟩⟩
      rcases bad with h | h | h
      · exact absurd h n1
      · exact absurd h n2
      · exact absurd h n3
  · have n1 : ¬ hasV (nI nd) a = 0 := fun e => bad (Or.inl e)
    have n2 : ¬ wth b (-1000) 1000 = 0 := fun e => bad (Or.inr (Or.inl e))
    have n3 : ¬ wth c b 1000 = 0 := fun e => bad (Or.inr (Or.inr e))
    obtain ⟨d, hd, rfl⟩ := (hasV_cases (by omega) a).resolve_left n1
    have cd : (nI d).toNatClampNeg = d := nI_clamp (by omega)
    have b1 := wth_toInt n2
    have c1 := wth_toInt n3
    refine ⟨1, ui (ui M 5 d b) 6 d c, ui (ui (ui (ui M 5 d b) 6 d c) 76 d b) 77 d c, fn_intro ok_X9_band (Nat.le_of_ble_eq_true rfl) fun G g gr => ?_, fn_intro ok_X10_band (Nat.le_of_ble_eq_true rfl) fun G g gr => ?_, ?_⟩
    · refine b_X9_band_0 g gr (by decide) _ b c M ⟨_, _, fhasD s1 _, fun e => absurd e n1, fun _ => ⟨_, _, fn_X9_within _ _ _ _, fun e => absurd e n2, fun _ => ⟨_, _, fn_X9_within _ _ _ _, fun _ => ⟨vp_in_nI (by omega) (by omega), ?_⟩, fun e => absurd e n3⟩⟩⟩
      rw [cd]
      intro M14 e14 M15 e15
      rw [e15, e14]
      exact ⟨rfl, rfl⟩
    · generalize hM1 : ui (ui M 5 d b) 6 d c = M1 at gr
      have z : M1.1 72 0 = nI nd := by rw [← hM1]; simp [ui_diff]; exact s2
      refine b_X10_band_0 g gr (by decide) _ b c M1 ⟨_, _, fisD (by omega) z _, fun e => absurd e n1, fun _ => ⟨_, _, fin b (-1000) 1000 rfl rfl M1, fun e => absurd e n2, fun _ => ⟨_, _, fin c b 1000 rfl rfl M1, fun _ => ⟨vp_in_nI (by omega) (by omega), ?_⟩, fun e => absurd e n3⟩⟩⟩
      rw [cd]
      intro M14 e14 M15 e15
      rw [e15, e14]
      exact ⟨rfl, rfl⟩
    · have hor : ∀ k, k ≠ 5 → k ≠ 6 → k ≠ 76 → k ≠ 77 → (ui (ui (ui (ui M 5 d b) 6 d c) 76 d b) 77 d c).1 k = M.1 k := fun k q1 q2 q3 q4 => by rw [ui_diff q4, ui_diff q3, ui_diff q2, ui_diff q1]
      refine ⟨nd, nw, np, ns, nwd, h, bb, ?_, ?_, ?_, i4.congr (fun k hk => hor k (by omega) (by omega) (by omega) (by omega)), i5.congr (fun k hk => hor k (by omega) (by omega) (by omega) (by omega)), ?_, i7⟩
      · unfold Sz
        rw [hor 2 (by decide) (by decide) (by decide) (by decide), hor 72 (by decide) (by decide) (by decide) (by decide), hor 10 (by decide) (by decide) (by decide) (by decide), hor 15 (by decide) (by decide) (by decide) (by decide), hor 22 (by decide) (by decide) (by decide) (by decide), hor 32 (by decide) (by decide) (by decide) (by decide), hor 1 (by decide) (by decide) (by decide) (by decide), hor 89 (by decide) (by decide) (by decide) (by decide)]
        exact i1
      · intro p hp
        have R := i2
        unfold Rel prs at R
        simp only [List.forall_mem_cons, List.not_mem_nil, false_imp_iff, implies_true, and_true] at R
        unfold prs at hp
        simp only [List.mem_cons, List.not_mem_nil, or_false] at hp
        rcases hp with rfl | rfl | rfl | rfl | rfl | rfl | rfl | rfl | rfl | rfl | rfl | rfl | rfl | rfl | rfl | rfl | rfl | rfl | rfl | rfl | rfl | rfl | rfl | rfl | rfl <;> simp [ui_same, ui_diff, R]
      · have h5r : (ui (ui (ui (ui M 5 d b) 6 d c) 76 d b) 77 d c).1 5 = upd (M.1 5) d b := by simp [ui_same, ui_diff]
        have h6r : (ui (ui (ui (ui M 5 d b) 6 d c) 76 d b) 77 d c).1 6 = upd (M.1 6) d c := by simp [ui_same, ui_diff]
        unfold VLd
        rw [h5r, h6r, hor 3 (by decide) (by decide) (by decide) (by decide), hor 4 (by decide) (by decide) (by decide) (by decide), hor 11 (by decide) (by decide) (by decide) (by decide), hor 12 (by decide) (by decide) (by decide) (by decide), hor 14 (by decide) (by decide) (by decide) (by decide), hor 16 (by decide) (by decide) (by decide) (by decide), hor 17 (by decide) (by decide) (by decide) (by decide), hor 18 (by decide) (by decide) (by decide) (by decide), hor 19 (by decide) (by decide) (by decide) (by decide), hor 20 (by decide) (by decide) (by decide) (by decide), hor 23 (by decide) (by decide) (by decide) (by decide), hor 24 (by decide) (by decide) (by decide) (by decide), hor 25 (by decide) (by decide) (by decide) (by decide), hor 31 (by decide) (by decide) (by decide) (by decide)]
        obtain ⟨v1, v2, v3, v4, v5, v6⟩ := i3
        refine ⟨v1, v2, v3, v4, fun x hx => ?_, v6⟩
        obtain ⟨w1, w2, w3, w4, w5, w6, w7⟩ := v5 x hx
        by_cases e : x = d
        · subst e
          rw [upd_at, upd_at]
          have q1 : (-1000 : Int32).toInt = -1000 := by decide
          have q2 : (1000 : Int32).toInt = 1000 := by decide
          exact ⟨w1, w2, w3, by omega, by omega, by omega, by omega⟩
        · rw [upd_ne e, upd_ne e]
          exact ⟨w1, w2, w3, w4, w5, w6, w7⟩
      · rw [hor 7 (by decide) (by decide) (by decide) (by decide)]
        exact i6
theorem case_told {M : MM} {T : Nat} (I : Inv M T) (a b : Int32) : ∃ (r : Int32) (M1 M2 : MM), Fn 3 mX9_told [.ref 0, .int a, .int b] M (some (.int r)) M1 ∧ Fn 3 mX10_told [.ref 72, .int a, .int b] M1 (some (.int r)) M2 ∧ Inv M2 T := by
  obtain ⟨nd, nw, np, ns, nwd, h, bb, i1, i2, i3, i4, i5, i6, i7⟩ := id I
  obtain ⟨s1, s2, s3, s4, s5, s6, s7, s8, s9, s10, s11, s12, s13, s14, s15, s16, s17⟩ := id i1
  have h6 := i3.d6
  rcases hasV_cases (n := nd) (by omega) a with n1 | ⟨d, hd, rfl⟩
  · refine ⟨-1000000, M, M, fn_intro ok_X9_told (Nat.le_of_ble_eq_true rfl) fun G g gr => ?_, fn_intro ok_X10_told (Nat.le_of_ble_eq_true rfl) fun G g gr => ?_, I⟩
    · exact b_X9_told_0 g gr (by decide) a b M ⟨_, _, fhasD s1 a, fun e => absurd n1 e, fun _ => ⟨rfl, rfl⟩⟩
    · exact b_X10_told_0 g gr (by decide) a b M ⟨_, _, fisD (by omega) s2 a, fun _ => ⟨rfl, rfl⟩, fun e => absurd n1 e⟩
  · have n1 : ¬ hasV (nI nd) (nI d) = 0 := by rw [hasV_in hd (by omega)]; decide
    have cd : (nI d).toNatClampNeg = d := nI_clamp (by omega)
    obtain ⟨A, A1, A2, eA⟩ := i3.A hd
    have eA2 : M.1 73 d = nI A := by rw [← eA]; exact congrFun (i2 (3, 73) (by decide)) d
    have hr := rel_row i2
    refine ⟨if b = 0 then M.1 7 d else if b = 1 then lev M.1 (M.1 7) d else if b = 2 then brc M.1 (M.1 7) d else if b = 3 then M.1 8 d else if b = 4 then M.1 9 d else -1000000, M, M, fn_intro ok_X9_told (Nat.le_of_ble_eq_true rfl) fun G g gr => ?_, fn_intro ok_X10_told (Nat.le_of_ble_eq_true rfl) fun G g gr => ?_, I⟩
    · refine b_X9_told_0 g gr (by decide) _ b M ⟨_, _, fhasD s1 _, fun _ => ⟨fun c => ⟨vp_in_nI (by omega) (by omega), ?_⟩, fun c => ⟨_, _, fn_X0_level sh_7 (by omega) A1 A2 eA, ?_⟩, fun c => ⟨_, _, fn_X0_breach sh_7 (by omega) A1 A2 eA, ?_⟩, fun c => ⟨vp_in_nI (by omega) (by omega), ?_⟩, fun c => ⟨vp_in_nI (by omega) (by omega), ?_⟩, fun c0 c1 c2 c3 c4 => ?_⟩, fun e => absurd e n1⟩
      · subst c; rw [cd]; exact ⟨rfl, rfl⟩
      · subst c; exact ⟨rfl, rfl⟩
      · subst c; exact ⟨rfl, rfl⟩
      · subst c; rw [cd]; exact ⟨rfl, rfl⟩
      · subst c; rw [cd]; exact ⟨rfl, rfl⟩
      · rw [if_neg c0, if_neg c1, if_neg c2, if_neg c3, if_neg c4]; exact ⟨rfl, rfl⟩
    · refine b_X10_told_0 g gr (by decide) _ b M ⟨_, _, fisD (by omega) s2 _, fun e => absurd e n1, fun _ => ⟨_, _, fin b 0 4 rfl rfl M, fun n2 => ⟨fun c0 => ⟨fun c1 => ⟨fun c2 => ⟨fun c3 => ⟨vp_in_nI (by omega) (by omega), ?_⟩, fun c3 => ⟨vp_in_nI (by omega) (by omega), ?_⟩⟩, fun c2 => ⟨_, _, fn_X10_breach (by omega) A1 A2 eA2, ?_⟩⟩, fun c1 => ⟨_, _, fn_X10_level (by omega) A1 A2 eA2, ?_⟩⟩, fun c0 => ⟨vp_in_nI (by omega) (by omega), ?_⟩⟩, fun e => ?_⟩⟩
      · obtain ⟨j, j1, j2, rfl⟩ := toNI (lo := 0) (hi := 4) (by omega) (by omega) n2
        rcases (show j = 0 ∨ j = 1 ∨ j = 2 ∨ j = 3 ∨ j = 4 by omega) with rfl | rfl | rfl | rfl | rfl
        · exact absurd rfl c0
        · exact absurd rfl c1
        · exact absurd rfl c2
        · exact absurd rfl c3
        · rw [cd, i2 (9, 79) (by decide)]; exact ⟨rfl, rfl⟩
      · subst c3; rw [cd, i2 (8, 78) (by decide)]; exact ⟨rfl, rfl⟩
      · subst c2; rw [i2 (7, 75) (by decide), ← brc_congr hr]; exact ⟨rfl, rfl⟩
      · subst c1; rw [i2 (7, 75) (by decide), ← lev_congr hr]; exact ⟨rfl, rfl⟩
      · subst c0; rw [cd, i2 (7, 75) (by decide)]; exact ⟨rfl, rfl⟩
      · rw [if_neg (fun q => by subst q; exact absurd e (by decide)), if_neg (fun q => by subst q; exact absurd e (by decide)), if_neg (fun q => by subst q; exact absurd e (by decide)), if_neg (fun q => by subst q; exact absurd e (by decide)), if_neg (fun q => by subst q; exact absurd e (by decide))]
        exact ⟨rfl, rfl⟩

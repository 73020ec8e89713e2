/-! open, tide, price, world, foretell -/
theorem nar01 (x : Int32) : vp_nar .boolean x = 0 ∨ vp_nar .boolean x = 1 := and1 x
theorem inv_pair {M : MM} {T p q j : Nat} {v : Int32} (I : Inv M T) (hp : (p = 25 ∧ q = 93 ∧ (v = 0 ∨ v = 1)) ∨ (p = 30 ∧ q = 94) ∨ (p = 31 ∧ q = 95 ∧ ∃ x : Nat, x ≤ 100 ∧ v = nI x)) : Inv (ui (ui M p j v) q j v) T := by
  obtain ⟨nd, nw, np, ns, nwd, h, bb, i1, i2, i3, i4, i5, i6, i7⟩ := I
  generalize hM : ui (ui M p j v) q j v = M2
  have hor : ∀ k, k ≠ p → k ≠ q → M2.1 k = M.1 k := fun k q1 q2 => by rw [← hM, ui_diff q2, ui_diff q1]
  have hp' : M2.1 p = upd (M.1 p) j v := by rw [← hM, ui_diff (by omega), ui_same]
  have hq' : M2.1 q = upd (M.1 q) j v := by rw [← hM, ui_same, ui_diff (by omega)]
  refine ⟨nd, nw, np, ns, nwd, h, bb, ?_, ?_, ?_, i4.congr (fun k hk => hor k (by omega) (by omega)), i5.congr (fun k hk => hor k (by omega) (by omega)), ?_, i7⟩
  · unfold Sz
    rw [hor 2 (by omega) (by omega), hor 72 (by omega) (by omega), hor 10 (by omega) (by omega), hor 15 (by omega) (by omega), hor 22 (by omega) (by omega), hor 32 (by omega) (by omega), hor 1 (by omega) (by omega), hor 89 (by omega) (by omega)]
    exact i1
  · intro z hz
    have h1 : ∀ z ∈ prs, z.1 ≤ 31 ∧ 73 ≤ z.2 ∧ ((z.1 = 25 ↔ z.2 = 93) ∧ (z.1 = 30 ↔ z.2 = 94) ∧ (z.1 = 31 ↔ z.2 = 95)) := by decide
    obtain ⟨q1, q2, q3, q4, q5⟩ := h1 z hz
    by_cases e : z.1 = p
    · have e2 : z.2 = q := by omega
      rw [e2, e, hp', hq', ← e, ← e2, i2 z hz]
    · have e2 : z.2 ≠ q := by omega
      rw [hor _ e (by omega), hor _ (by omega) e2]
      exact i2 z hz
  · unfold VLd
    rw [hor 3 (by omega) (by omega), hor 4 (by omega) (by omega), hor 5 (by omega) (by omega), hor 6 (by omega) (by omega), hor 11 (by omega) (by omega), hor 12 (by omega) (by omega), hor 14 (by omega) (by omega), hor 16 (by omega) (by omega), hor 17 (by omega) (by omega), hor 18 (by omega) (by omega), hor 19 (by omega) (by omega), hor 20 (by omega) (by omega), hor 23 (by omega) (by omega), hor 24 (by omega) (by omega)]
    obtain ⟨v1, v2, v3, v4, v5, v6, v7, v8, v9, v10⟩ := i3
    refine ⟨v1, v2, v3, v4, v5, v6, v7, v8, fun k hk => ?_, fun k hk => ?_⟩
    · rcases hp with ⟨e1, e2, e3⟩ | ⟨e1, e2⟩ | ⟨e1, e2, e3⟩
      · subst e1
        rw [hp']
        by_cases e : k = j
        · subst e; rw [upd_at]; exact e3
        · rw [upd_ne e]; exact v9 k hk
      · rw [hor 25 (by omega) (by omega)]; exact v9 k hk
      · rw [hor 25 (by omega) (by omega)]; exact v9 k hk
    · rcases hp with ⟨e1, e2, e3⟩ | ⟨e1, e2⟩ | ⟨e1, e2, e3⟩
      · rw [hor 31 (by omega) (by omega)]; exact v10 k hk
      · rw [hor 31 (by omega) (by omega)]; exact v10 k hk
      · subst e1
        rw [hp']
        by_cases e : k = j
        · subst e; rw [upd_at]; exact e3
        · rw [upd_ne e]; exact v10 k hk
  · rw [hor 7 (by omega) (by omega)]
    exact i6
theorem case_open {M : MM} {T : Nat} (I : Inv M T) (a b : Int32) : ∃ (r : Int32) (M1 M2 : MM), Fn 2 mX9_open [.ref 0, .int a, .int b] M (some (.int r)) M1 ∧ Fn 2 mX10_open [.ref 72, .int a, .int b] M1 (some (.int r)) M2 ∧ Inv M2 T := by
  obtain ⟨nd, nw, np, ns, nwd, h, bb, i1, i2, i3, i4, i5, i6, i7⟩ := id I
  obtain ⟨s1, s2, s3, s4, s5, s6, s7, s8, s9, s10, s11, s12, s13, s14, s15, s16, s17⟩ := id i1
  have h4 := i3.s4
  rcases hasV_cases (n := ns) (by omega) a with n1 | ⟨d, hd, rfl⟩
  · refine ⟨-1, M, M, fn_intro ok_X9_open (Nat.le_of_ble_eq_true rfl) fun G g gr => ?_, fn_intro ok_X10_open (Nat.le_of_ble_eq_true rfl) fun G g gr => ?_, I⟩
    · exact b_X9_open_0 g gr (by decide) a b M ⟨_, _, fhasS s7 a, fun e => absurd n1 e, fun _ => ⟨rfl, rfl⟩⟩
    · exact b_X10_open_0 g gr (by decide) a b M ⟨_, _, fis (by omega) s8 a M, fun e => absurd n1 e, fun _ => ⟨rfl, rfl⟩⟩
  · have n1 : ¬ hasV (nI ns) (nI d) = 0 := by rw [hasV_in hd (by omega)]; decide
    have cd : (nI d).toNatClampNeg = d := nI_clamp (by omega)
    refine ⟨if M.1 25 d = 0 then 0 else 1, ui M 25 d (vp_nar .boolean b), ui (ui M 25 d (vp_nar .boolean b)) 93 d (vp_nar .boolean b), fn_intro ok_X9_open (Nat.le_of_ble_eq_true rfl) fun G g gr => ?_, fn_intro ok_X10_open (Nat.le_of_ble_eq_true rfl) fun G g gr => ?_, inv_pair I (Or.inl ⟨rfl, rfl, nar01 b⟩)⟩
    · refine b_X9_open_0 g gr (by decide) _ b M ⟨_, _, fhasS s7 _, fun _ => ⟨vp_in_nI (by omega) (by omega), ?_⟩, fun e => absurd e n1⟩
      rw [cd]
      intro x7 e7 M8 e8
      rw [e7, e8]
      exact ⟨rfl, rfl⟩
    · refine b_X10_open_0 g gr (by decide) _ b _ ⟨_, _, fis (by omega) (by rw [ui_diff (by decide)]; exact s8) _ _, fun _ => ⟨vp_in_nI (by omega) (by omega), ?_⟩, fun e => absurd e n1⟩
      rw [cd, ui_diff (by decide), i2 (25, 93) (by decide)]
      intro x7 e7 M8 e8
      rw [e7, e8]
      exact ⟨rfl, rfl⟩
theorem case_tide {M : MM} {T : Nat} (I : Inv M T) (a b : Int32) : ∃ (r : Int32) (M1 M2 : MM), Fn 3 mX9_tide [.ref 0, .int a, .int b] M (some (.int r)) M1 ∧ Fn 2 mX10_tide [.ref 72, .int a, .int b] M1 (some (.int r)) M2 ∧ Inv M2 T := by
  obtain ⟨nd, nw, np, ns, nwd, h, bb, i1, i2, i3, i4, i5, i6, i7⟩ := id I
  by_cases bad : wth a 0 23 = 0 ∨ wth b (-500) 500 = 0
  · refine ⟨-1000000, M, M, fn_intro ok_X9_tide (Nat.le_of_ble_eq_true rfl) fun G g gr => ?_, fn_intro ok_X10_tide (Nat.le_of_ble_eq_true rfl) fun G g gr => ?_, I⟩
    · refine b_X9_tide_0 g gr (by decide) a b M ⟨_, _, fn_X9_isHourOfDay _ _, fun _ => ⟨rfl, rfl⟩, fun n1 => ⟨_, _, fn_X9_isHeight _ _, fun n2 => ?_, fun _ => ⟨rfl, rfl⟩⟩⟩
      rcases bad with h | h
      · exact absurd h n1
      · exact absurd h n2
    · refine b_X10_tide_0 g gr (by decide) a b M ⟨_, _, fin a 0 23 rfl rfl M, fun _ => ⟨rfl, rfl⟩, fun n1 => ⟨_, _, fin b (-500) 500 rfl rfl M, fun n2 => ?_, fun _ => ⟨rfl, rfl⟩⟩⟩
      rcases bad with h | h
      · exact absurd h n1
      · exact absurd h n2
  · have n1 : ¬ wth a 0 23 = 0 := fun e => bad (Or.inl e)
    have n2 : ¬ wth b (-500) 500 = 0 := fun e => bad (Or.inr e)
    obtain ⟨j, -, hj, rfl⟩ := toNI (lo := 0) (hi := 23) (by omega) (by omega) n1
    have cd : (nI j).toNatClampNeg = j := nI_clamp (by omega)
    refine ⟨M.1 30 j, ui M 30 j b, ui (ui M 30 j b) 94 j b, fn_intro ok_X9_tide (Nat.le_of_ble_eq_true rfl) fun G g gr => ?_, fn_intro ok_X10_tide (Nat.le_of_ble_eq_true rfl) fun G g gr => ?_, inv_pair I (Or.inr (Or.inl ⟨rfl, rfl⟩))⟩
    · refine b_X9_tide_0 g gr (by decide) _ b M ⟨_, _, fn_X9_isHourOfDay _ _, fun e => absurd e n1, fun _ => ⟨_, _, fn_X9_isHeight _ _, fun _ => ⟨vp_in_nI (by omega) (by omega), ?_⟩, fun e => absurd e n2⟩⟩
      rw [cd]
      intro x7 e7 M8 e8
      rw [e7, e8]
      exact ⟨rfl, rfl⟩
    · refine b_X10_tide_0 g gr (by decide) _ b _ ⟨_, _, fin _ 0 23 rfl rfl _, fun e => absurd e n1, fun _ => ⟨_, _, fin b (-500) 500 rfl rfl _, fun _ => ⟨vp_in_nI (by omega) (by omega), ?_⟩, fun e => absurd e n2⟩⟩
      rw [cd, ui_diff (by decide), i2 (30, 94) (by decide)]
      intro x7 e7 M8 e8
      rw [e7, e8]
      exact ⟨rfl, rfl⟩
theorem case_price {M : MM} {T : Nat} (I : Inv M T) (a b : Int32) : ∃ (r : Int32) (M1 M2 : MM), Fn 3 mX9_price [.ref 0, .int a, .int b] M (some (.int r)) M1 ∧ Fn 2 mX10_price [.ref 72, .int a, .int b] M1 (some (.int r)) M2 ∧ Inv M2 T := by
  obtain ⟨nd, nw, np, ns, nwd, h, bb, i1, i2, i3, i4, i5, i6, i7⟩ := id I
  by_cases bad : wth a 0 23 = 0 ∨ wth b 0 100 = 0
  · refine ⟨-1, M, M, fn_intro ok_X9_price (Nat.le_of_ble_eq_true rfl) fun G g gr => ?_, fn_intro ok_X10_price (Nat.le_of_ble_eq_true rfl) fun G g gr => ?_, I⟩
    · refine b_X9_price_0 g gr (by decide) a b M ⟨_, _, fn_X9_isHourOfDay _ _, fun _ => ⟨rfl, rfl⟩, fun n1 => ⟨_, _, fn_X9_within _ _ _ _, fun n2 => ?_, fun _ => ⟨rfl, rfl⟩⟩⟩
      rcases bad with h | h
      · exact absurd h n1
      · exact absurd h n2
    · refine b_X10_price_0 g gr (by decide) a b M ⟨_, _, fin a 0 23 rfl rfl M, fun _ => ⟨rfl, rfl⟩, fun n1 => ⟨_, _, fin b 0 100 rfl rfl M, fun n2 => ?_, fun _ => ⟨rfl, rfl⟩⟩⟩
      rcases bad with h | h
      · exact absurd h n1
      · exact absurd h n2
  · have n1 : ¬ wth a 0 23 = 0 := fun e => bad (Or.inl e)
    have n2 : ¬ wth b 0 100 = 0 := fun e => bad (Or.inr e)
    obtain ⟨j, -, hj, rfl⟩ := toNI (lo := 0) (hi := 23) (by omega) (by omega) n1
    obtain ⟨x, -, hx, rfl⟩ := toNI (lo := 0) (hi := 100) (by omega) (by omega) n2
    have cd : (nI j).toNatClampNeg = j := nI_clamp (by omega)
    refine ⟨M.1 31 j, ui M 31 j (nI x), ui (ui M 31 j (nI x)) 95 j (nI x), fn_intro ok_X9_price (Nat.le_of_ble_eq_true rfl) fun G g gr => ?_, fn_intro ok_X10_price (Nat.le_of_ble_eq_true rfl) fun G g gr => ?_, inv_pair I (Or.inr (Or.inr ⟨rfl, rfl, x, hx, rfl⟩))⟩
    · refine b_X9_price_0 g gr (by decide) _ _ M ⟨_, _, fn_X9_isHourOfDay _ _, fun e => absurd e n1, fun _ => ⟨_, _, fn_X9_within _ _ _ _, fun _ => ⟨vp_in_nI (by omega) (by omega), ?_⟩, fun e => absurd e n2⟩⟩
      rw [cd]
      intro x7 e7 M8 e8
      rw [e7, e8]
      exact ⟨rfl, rfl⟩
    · refine b_X10_price_0 g gr (by decide) _ _ _ ⟨_, _, fin _ 0 23 rfl rfl _, fun e => absurd e n1, fun _ => ⟨_, _, fin _ 0 100 rfl rfl _, fun _ => ⟨vp_in_nI (by omega) (by omega), ?_⟩, fun e => absurd e n2⟩⟩
      rw [cd, ui_diff (by decide), i2 (31, 95) (by decide)]
      intro x7 e7 M8 e8
      rw [e7, e8]
      exact ⟨rfl, rfl⟩
/-- writing what stands there -/
theorem upd_id {f : Nat → Int32} {j : Nat} {x : Int32} (h : f j = x) : upd f j x = f := by
  funext i
  by_cases e : i = j
  · subst e; rw [upd_at, h]
  · rw [upd_ne e]
theorem ui_id {M : MM} {k j : Nat} {x : Int32} (h : M.1 k j = x) : ui M k j x = M := by rw [ui_row, upd_id h, uc_self]
theorem case_world {M : MM} {T : Nat} (I : Inv M T) : ∃ (r : Int32) (M1 M2 : MM), Fn 2 mX9_world [.ref 0] M (some (.int r)) M1 ∧ Fn 1 mX10_world [.ref 72] M1 (some (.int r)) M2 ∧ Inv M2 T := by
  obtain ⟨nd, nw, np, ns, nwd, h, bb, i1, i2, i3, i4, i5, i6, i7⟩ := id I
  obtain ⟨s1, s2, s3, s4, s5, s6, s7, s8, s9, s10, s11, s12, s13, s14, s15, s16, s17⟩ := id i1
  rcases Nat.lt_or_ge nwd 3 with hn | hn
  · have ca : Fn 1 mX8_add [.ref 32] M (some (.int (nI nwd))) (ui M 32 1 (nI (nwd + 1))) := fn_intro ok_X8_add (Nat.le_of_ble_eq_true rfl) fun G g gr => by
      refine b_X8_add_0 g gr (by decide) M ⟨fun _ => ?_, fun c => ?_⟩
      · rw [s9, nI_1]
        intro M2 e2
        exact ⟨rfl, e2.symm⟩
      · exfalso; apply c; rw [s9]; exact nI_lt (b := 3) hn (by omega)
    refine ⟨nI nwd, ui M 32 1 (nI (nwd + 1)), ui (ui M 32 1 (nI (nwd + 1))) 72 32 (nI (nwd + 1)), fn_intro ok_X9_world (Nat.le_of_ble_eq_true rfl) fun G g gr => b_X9_world_0 g gr (by decide) M ⟨_, _, ca, rfl, rfl⟩, fn_intro ok_X10_world (Nat.le_of_ble_eq_true rfl) fun G g gr => ?_, ?_⟩
    · generalize hM1 : ui M 32 1 (nI (nwd + 1)) = M1 at gr
      have z : M1.1 72 32 = nI nwd := by rw [← hM1, ui_diff (by decide)]; exact s10
      have r99 : ∀ k, k < 6 → M1.1 99 (6 * nwd + k) = 0 := fun k hk => by
        rw [← hM1, ui_diff (by decide)]
        obtain ⟨v, v1, v2, v3, v4⟩ := i4 nwd (by omega) k hk
        rw [v3, v4 (Nat.le_refl _)]
        rfl
      refine b_X10_world_0 g gr (by decide) M1 ⟨fun _ => ?_, fun e => ?_⟩
      · have loop : ∀ k j : Nat, j + k = 6 → At_X10_world_13 G (nI j) M1 := by
          intro k
          induction k with
          | zero =>
            intro j hj
            refine b_X10_world_13 g gr (by decide) _ M1 ⟨fun _ => ?_, fun c => ?_⟩
            · rw [z, nI_1]
              intro M2 e2
              have z2 : M2.1 72 32 = nI (nwd + 1) := by rw [e2, ui_at]
              rw [z2, nI_pred]
              exact ⟨rfl, e2.symm⟩
            · exact absurd (by exact nI_le (a := 6) (by omega) (by omega)) c
          | succ k ih =>
            intro j hj
            refine b_X10_world_13 g gr (by decide) _ M1 ⟨fun c => ?_, fun _ => ?_⟩
            · rw [show (6 : Int32) = nI 6 from rfl, nI_leI (by omega) (by omega)] at c; omega
            · have e6 : (6 * nI nwd + nI j : Int32) = nI (6 * nwd + j) := by rw [show (6 : Int32) = nI 6 from rfl, pk_mul, nI_add]
              rw [z, e6]
              refine ⟨vp_in_nI (by omega) (by omega), ?_⟩
              rw [nI_clamp (by omega)]
              intro M4 e4 x5 e5
              rw [e4, ui_id (r99 j (by omega)), e5, nI_1]
              exact ih (j + 1) (by omega)
        exact loop 6 0 (by omega)
      · rw [z, show (3 : Int32) = nI 3 from rfl, nI_eq (by omega) (by omega)] at e; omega
    · have hor : ∀ k, k ≠ 32 → k ≠ 72 → (ui (ui M 32 1 (nI (nwd + 1))) 72 32 (nI (nwd + 1))).1 k = M.1 k := fun k q1 q2 => by rw [ui_diff q2, ui_diff q1]
      refine ⟨nd, nw, np, ns, nwd + 1, h, bb, ?_, ?_, i3.congr (fun k hk => by have := rowL_le k hk; rw [hor k (by omega) (by omega)]), ?_, i5.congr (fun k hk => hor k (by omega) (by omega)), ?_, i7⟩
      · refine ⟨?_, ?_, ?_, ?_, ?_, ?_, ?_, ?_, ?_, ?_, by omega, ?_, ?_, ?_, ?_, s16, ?_⟩ <;> first | (simp [ui_same, ui_diff, upd]; done) | (simp [ui_same, ui_diff, upd]; assumption)
      · intro z hz
        have h1 : ∀ z ∈ prs, z.1 ≠ 32 ∧ z.1 ≠ 72 ∧ z.2 ≠ 32 ∧ z.2 ≠ 72 := by decide
        obtain ⟨q1, q2, q3, q4⟩ := h1 z hz
        rw [hor _ q1 q2, hor _ q3 q4]
        exact i2 z hz
      · intro w hw k hk
        rw [hor (34 + w) (by omega) (by omega), hor 99 (by decide) (by decide)]
        obtain ⟨v, v1, v2, v3, v4⟩ := i4 w hw k hk
        exact ⟨v, v1, v2, v3, fun q => v4 (by omega)⟩
      · rw [hor 7 (by decide) (by decide)]
        exact i6
  · have h3 : nwd = 3 := by omega
    subst h3
    have ca : Fn 1 mX8_add [.ref 32] M (some (.int (-3))) M := fn_intro ok_X8_add (Nat.le_of_ble_eq_true rfl) fun G g gr => by
      refine b_X8_add_0 g gr (by decide) M ⟨fun c => ?_, fun _ => ⟨rfl, rfl⟩⟩
      rw [s9] at c
      exact absurd c (by decide)
    exact ⟨-3, M, M, fn_intro ok_X9_world (Nat.le_of_ble_eq_true rfl) fun G g gr => b_X9_world_0 g gr (by decide) M ⟨_, _, ca, rfl, rfl⟩, fn_intro ok_X10_world (Nat.le_of_ble_eq_true rfl) fun G g gr => b_X10_world_0 g gr (by decide) M ⟨fun e => absurd s10 e, fun _ => ⟨rfl, rfl⟩⟩, I⟩
theorem sh_w {w : Nat} (h : w < 3) : shp (34 + w) = (1, 0, 6, []) := by
  rcases (show w = 0 ∨ w = 1 ∨ w = 2 by omega) with rfl | rfl | rfl
  · exact sh_34
  · exact sh_35
  · exact sh_36
theorem case_foretell {M : MM} {T : Nat} (I : Inv M T) (a b c : Int32) : ∃ (r : Int32) (M1 M2 : MM), Fn 3 mX9_foretell [.ref 0, .int a, .int b, .int c] M (some (.int r)) M1 ∧ Fn 2 mX10_foretell [.ref 72, .int a, .int b, .int c] M1 (some (.int r)) M2 ∧ Inv M2 T := by
  obtain ⟨nd, nw, np, ns, nwd, h, bb, i1, i2, i3, i4, i5, i6, i7⟩ := id I
  obtain ⟨s1, s2, s3, s4, s5, s6, s7, s8, s9, s10, s11, s12, s13, s14, s15, s16, s17⟩ := id i1
  by_cases bad : hasV (nI nwd) a = 0 ∨ wth b 0 5 = 0 ∨ wth c 0 100 = 0
  · refine ⟨-1, M, M, fn_intro ok_X9_foretell (Nat.le_of_ble_eq_true rfl) fun G g gr => ?_, fn_intro ok_X10_foretell (Nat.le_of_ble_eq_true rfl) fun G g gr => ?_, I⟩
    · refine b_X9_foretell_0 g gr (by decide) a b c M ⟨_, _, fhasO s9 a, fun _ => ⟨rfl, rfl⟩, fun n1 => ⟨_, _, fn_X9_within _ _ _ _, fun _ => ⟨rfl, rfl⟩, fun n2 => ⟨_, _, fn_X9_isRain _ _, fun n3 => ?_, fun _ => ⟨rfl, rfl⟩⟩⟩⟩
      rcases bad with h | h | h
      · exact absurd h n1
      · exact absurd h n2
      · exact absurd h n3
    · refine b_X10_foretell_0 g gr (by decide) a b c M ⟨_, _, fis (by omega) s10 a M, fun _ => ⟨rfl, rfl⟩, fun n1 => ⟨_, _, fin b 0 5 rfl rfl M, fun _ => ⟨rfl, rfl⟩, fun n2 => ⟨_, _, fin c 0 100 rfl rfl M, fun n3 => ?_, fun _ => ⟨rfl, rfl⟩⟩⟩⟩
      rcases bad with h | h | h
      · exact absurd h n1
      · exact absurd h n2
      · exact absurd h n3
  · have n1 : ¬ hasV (nI nwd) a = 0 := fun e => bad (Or.inl e)
    have n2 : ¬ wth b 0 5 = 0 := fun e => bad (Or.inr (Or.inl e))
    have n3 : ¬ wth c 0 100 = 0 := fun e => bad (Or.inr (Or.inr e))
    obtain ⟨w, hw, rfl⟩ := (hasV_cases (by omega) a).resolve_left n1
    obtain ⟨k, -, hk, rfl⟩ := toNI (lo := 0) (hi := 5) (by omega) (by omega) n2
    obtain ⟨x, -, hx, rfl⟩ := toNI (lo := 0) (hi := 100) (by omega) (by omega) n3
    have cw : (nI w).toNatClampNeg = w := nI_clamp (by omega)
    have ck : (nI k).toNatClampNeg = k := nI_clamp (by omega)
    refine ⟨1, ui M (34 + w) k (nI x), ui (ui M (34 + w) k (nI x)) 99 (6 * w + k) (nI x), fn_intro ok_X9_foretell (Nat.le_of_ble_eq_true rfl) fun G g gr => ?_, fn_intro ok_X10_foretell (Nat.le_of_ble_eq_true rfl) fun G g gr => ?_, ?_⟩
    · refine b_X9_foretell_0 g gr (by decide) _ _ _ M ⟨_, _, fhasO s9 _, fun e => absurd e n1, fun _ => ⟨_, _, fn_X9_within _ _ _ _, fun e => absurd e n2, fun _ => ⟨_, _, fn_X9_isRain _ _, fun _ => ⟨vp_in_nI (by omega) (by omega), ?_⟩, fun e => absurd e n3⟩⟩⟩
      rw [cw, ck]
      refine ⟨sh_w (by omega), vp_in_nI (by omega) (by omega), ?_⟩
      intro M2 e2
      exact ⟨rfl, e2.symm⟩
    · generalize hM1 : ui M (34 + w) k (nI x) = M1 at gr
      have z : M1.1 72 32 = nI nwd := by rw [← hM1, ui_diff (by omega)]; exact s10
      have e6 : (6 * nI w + nI k : Int32) = nI (6 * w + k) := by rw [show (6 : Int32) = nI 6 from rfl, pk_mul, nI_add]
      refine b_X10_foretell_0 g gr (by decide) _ _ _ M1 ⟨_, _, fis (by omega) z _ _, fun e => absurd e n1, fun _ => ⟨_, _, fin _ 0 5 rfl rfl _, fun e => absurd e n2, fun _ => ⟨_, _, fin _ 0 100 rfl rfl _, fun _ => ?_, fun e => absurd e n3⟩⟩⟩
      rw [e6]
      refine ⟨vp_in_nI (by omega) (by omega), ?_⟩
      rw [nI_clamp (by omega)]
      intro M2 e2
      exact ⟨rfl, e2.symm⟩
    · have hor : ∀ z, z ≠ 34 + w → z ≠ 99 → (ui (ui M (34 + w) k (nI x)) 99 (6 * w + k) (nI x)).1 z = M.1 z := fun k q1 q2 => by rw [ui_diff q2, ui_diff q1]
      refine ⟨nd, nw, np, ns, nwd, h, bb, ?_, ?_, i3.congr (fun k hk => by have := rowL_le k hk; rw [hor k (by omega) (by omega)]), ?_, i5.congr (fun k hk => hor k (by omega) (by omega)), ?_, i7⟩
      · unfold Sz
        rw [hor 2 (by omega) (by omega), hor 72 (by omega) (by omega), hor 10 (by omega) (by omega), hor 15 (by omega) (by omega), hor 22 (by omega) (by omega), hor 32 (by omega) (by omega), hor 1 (by omega) (by omega), hor 89 (by omega) (by omega)]
        exact i1
      · intro z hz
        have h1 : ∀ z ∈ prs, ¬ (34 ≤ z.1 ∧ z.1 < 37) ∧ z.1 ≠ 99 ∧ ¬ (34 ≤ z.2 ∧ z.2 < 37) ∧ z.2 ≠ 99 := by decide
        obtain ⟨q1, q2, q3, q4⟩ := h1 z hz
        rw [hor _ (by omega) q2, hor _ (by omega) q4]
        exact i2 z hz
      · intro w2 hw2 k2 hk2
        have r99 : (ui (ui M (34 + w) k (nI x)) 99 (6 * w + k) (nI x)).1 99 = upd (M.1 99) (6 * w + k) (nI x) := by rw [ui_same, ui_diff (by omega)]
        rw [r99]
        by_cases e : w2 = w
        · subst e
          have rw2 : (ui (ui M (34 + w2) k (nI x)) 99 (6 * w2 + k) (nI x)).1 (34 + w2) = upd (M.1 (34 + w2)) k (nI x) := by rw [ui_diff (by omega), ui_same]
          rw [rw2]
          by_cases e2 : k2 = k
          · subst e2
            rw [upd_at, upd_at]
            exact ⟨x, hx, rfl, rfl, fun q => absurd q (by omega)⟩
          · rw [upd_ne e2, upd_ne (by omega)]
            exact i4 w2 hw2 k2 hk2
        · rw [hor (34 + w2) (by omega) (by omega), upd_ne (by omega)]
          exact i4 w2 hw2 k2 hk2
      · rw [hor 7 (by omega) (by omega)]
        exact i6

/-! plan, planned, judge -/
theorem Inv.plan {M M' : MM} {T : Nat} (I : Inv M T) (h : ∀ k, k ≠ 37 → ¬ (39 ≤ k ∧ k ≤ 63) → k ≠ 72 → ¬ (100 ≤ k ∧ k ≤ 103) → M'.1 k = M.1 k) (h2 : ∀ i, i ≠ 38 → M'.1 72 i = M.1 72 i) : Inv M' T := by
  obtain ⟨nd, nw, np, ns, nwd, hh, b, ⟨s1, s2, s3, s4, s5, s6, s7, s8, s9, s10, s11, s12, s13, s14, s15, s16, s17⟩, i2, i3, i4, i5, i6, i7⟩ := I
  have hr : ∀ k ∈ rowL, M.1 k = M'.1 k := fun k hk => by
    have := rowL_le k hk
    rw [h k (by omega) (by omega) (by omega) (by omega)]
  refine ⟨nd, nw, np, ns, nwd, hh, b, ?_, ?_, i3.congr hr, i4.congr (fun k hk => h k (by omega) (by omega) (by omega) (by omega)), i5.congr (fun k hk => h k (by omega) (by omega) (by omega) (by omega)), ?_, i7⟩
  · unfold Sz
    rw [h 2 (by decide) (by decide) (by decide) (by decide), h 10 (by decide) (by decide) (by decide) (by decide), h 15 (by decide) (by decide) (by decide) (by decide), h 22 (by decide) (by decide) (by decide) (by decide), h 32 (by decide) (by decide) (by decide) (by decide), h 1 (by decide) (by decide) (by decide) (by decide), h 89 (by decide) (by decide) (by decide) (by decide), h2 0 (by decide), h2 8 (by decide), h2 13 (by decide), h2 21 (by decide), h2 32 (by decide), h2 27 (by decide), h2 28 (by decide)]
    exact ⟨s1, s2, s3, s4, s5, s6, s7, s8, s9, s10, s11, s12, s13, s14, s15, s16, s17⟩
  · intro p hp
    have h1 : ∀ p ∈ prs, p.1 < 32 ∧ 73 ≤ p.2 ∧ p.2 < 99 := by decide
    have := h1 p hp
    rw [h _ (by omega) (by omega) (by omega) (by omega), h _ (by omega) (by omega) (by omega) (by omega)]
    exact i2 p hp
  · rw [h 7 (by decide) (by decide) (by decide) (by decide)]
    exact i6
theorem inv_x {M : MM} {T : Nat} (I : Inv M T) (hT : T ≤ 20000) : ∃ X, VX X ∧ EC X M ∧ EM X M := by
  obtain ⟨nd, nw, np, ns, nwd, h, b, ⟨s1, s2, s3, s4, s5, s6, s7, s8, s9, s10, s11, s12, s13, s14, s15, s16, s17⟩, i2, i3, i4, i5, i6, i7⟩ := I
  have h6 := i3.d6
  refine ⟨(M.1, (nd, nw, np, ns), (h, b, max nwd 1), (fun w k => M.1 (34 + w) k), M.1 7), ⟨i3, s16, ?_, ⟨?_, ?_⟩, ?_, ?_⟩, ⟨fun _ _ => rfl, s1, s3, s5, s7, ⟨nwd, s11, s9, rfl⟩, s12, s15, fun _ _ _ _ => rfl, rfl⟩, ⟨rel_row i2, s2, s4, s6, s8, ⟨nwd, s11, s10, rfl, ?_, ?_⟩, s13, s17, i2 (7, 75) (by decide)⟩⟩
  · show h ≤ 20000
    omega
  · show 1 ≤ max nwd 1
    omega
  · show max nwd 1 ≤ 3
    omega
  · intro w hw k hk
    have hw : w < max nwd 1 := hw
    obtain ⟨v, v1, v2, -, -⟩ := i4 w (by omega) k hk
    exact ⟨v, v1, v2⟩
  · refine ⟨i6.1, ?_⟩
    have := i6.2
    show tot (M.1 7) nd ≤ 700000000
    omega
  · intro w hw k hk
    obtain ⟨v, v1, v2, v3, -⟩ := i4 w (by omega) k hk
    rw [v3]
    exact v2.symm
  · intro h0 k hk
    obtain ⟨v, v1, v2, -, v4⟩ := i4 0 (by omega) k hk
    have := v4 (by omega)
    subst this
    exact v2
theorem EM.pl {X : PX} {M M' : MM} (h : ∀ j, j ≠ 37 → ¬ (39 ≤ j ∧ j ≤ 63) → M'.1 j = M.1 j) (E : EM X M) : EM X M' := by
  obtain ⟨e0, e1, e2, e3, e4, ⟨nwd, t1, t2, t3, t4, t5⟩, e6, e7, e8⟩ := E
  refine ⟨fun k hk => ?_, ?_, ?_, ?_, ?_, ⟨nwd, t1, ?_, t3, fun w hw k hk => ?_, t5⟩, ?_, fun p hp => ?_, ?_⟩
  · rw [e0 k hk]
    have := mp_le k hk
    unfold mS
    rw [h _ (by omega) (by omega)]
  · rw [h 72 (by decide) (by decide)]; exact e1
  · rw [h 72 (by decide) (by decide)]; exact e2
  · rw [h 72 (by decide) (by decide)]; exact e3
  · rw [h 72 (by decide) (by decide)]; exact e4
  · rw [h 72 (by decide) (by decide)]; exact t2
  · rw [h 99 (by decide) (by decide)]; exact t4 w hw k hk
  · rw [h 72 (by decide) (by decide)]; exact e6
  · rw [h 89 (by decide) (by decide)]; exact e7 p hp
  · rw [h 75 (by decide) (by decide)]; exact e8
theorem two_find {M : MM} {T n : Nat} (I : Inv M T) (hT : T ≤ 20000) (h1 : 1 ≤ n) (hn : n ≤ 6) : ∃ (C D : MM) (B : KY), Fn 14 mX3_seek [.ref 37, .int (nI n)] M none C ∧ Fn 4 mX10_findPlan [.ref 72, .int (nI n)] C none D ∧ (∀ j, j ≠ 37 → ¬ (39 ≤ j ∧ j ≤ 63) → C.1 j = M.1 j) ∧ OM C D ∧ (C.2 37 7 = lN B.1 ∧ C.2 37 6 = lN B.2.1 ∧ C.1 37 5 = nI B.2.2) ∧ (D.1 72 38 = nI B.2.2 ∧ D.2 72 39 = lN B.1 ∧ D.2 72 40 = lN B.2.1) ∧ B.2.2 < 4 ^ n := by
  obtain ⟨X, V, E, EMm⟩ := inv_x I hT
  obtain ⟨C, B, f1, o1, b1, B1⟩ := fn_seek V E h1 hn
  have EMc : EM X C := EMm.pl o1
  obtain ⟨D, B', f2, o2, B2, c1, c2, c3⟩ := fn_findPlan V EMc h1 hn
  have e := B1.uniq B2
  subst e
  obtain ⟨⟨y, y1, y2, y3, y4⟩, -⟩ := B1
  exact ⟨C, D, B, f1, f2, o1, o2, ⟨b1.1, b1.2.1, b1.2.2.1⟩, ⟨c1, c2, c3⟩, by rw [y4]; exact y1⟩
theorem inv_find {M C D : MM} {T : Nat} (I : Inv M T) (o1 : ∀ j, j ≠ 37 → ¬ (39 ≤ j ∧ j ≤ 63) → C.1 j = M.1 j) (o2 : OM C D) : Inv D T :=
  I.plan (fun k a b c d => by rw [o2.1 k c d, o1 k a b]) (fun i hi => by rw [o2.2 i hi, o1 72 (by decide) (by decide)])
theorem case_plan {M : MM} {T : Nat} (I : Inv M T) (hT : T ≤ 20000) (a : Int32) : ∃ (r : Int32) (M1 M2 : MM), Fn 15 mX9_plan [.ref 0, .int a] M (some (.int r)) M1 ∧ Fn 5 mX10_plan [.ref 72, .int a] M1 (some (.int r)) M2 ∧ Inv M2 T := by
  by_cases bad : wth a 1 6 = 0
  · refine ⟨-1, M, M, fn_intro ok_X9_plan (Nat.le_of_ble_eq_true rfl) fun G g gr => ?_, fn_intro ok_X10_plan (Nat.le_of_ble_eq_true rfl) fun G g gr => ?_, I⟩
    · exact b_X9_plan_0 g gr (by decide) a M ⟨_, _, fn_X9_isPlanned _ _, fun c => absurd bad c, fun _ => ⟨rfl, rfl⟩⟩
    · exact b_X10_plan_0 g gr (by decide) a M ⟨_, _, fin a 1 6 rfl rfl M, fun c => absurd bad c, fun _ => ⟨rfl, rfl⟩⟩
  · obtain ⟨n, h1, hn, rfl⟩ := toNI (lo := 1) (hi := 6) (by omega) (by omega) bad
    obtain ⟨C, D, B, f1, f2, o1, o2, ⟨b1, b2, b3⟩, ⟨c1, c2, c3⟩, -⟩ := two_find I hT h1 hn
    refine ⟨nI B.2.2, C, D, fn_intro ok_X9_plan (Nat.le_of_ble_eq_true rfl) fun G g gr => ?_, fn_intro ok_X10_plan (Nat.le_of_ble_eq_true rfl) fun G g gr => ?_, inv_find I o1 o2⟩
    · exact b_X9_plan_0 g gr (by decide) _ M ⟨_, _, fn_X9_isPlanned _ _, fun _ => ⟨C, f1, by rw [b3], rfl⟩, fun c => absurd c bad⟩
    · exact b_X10_plan_0 g gr (by decide) _ C ⟨_, _, fin _ 1 6 rfl rfl C, fun _ => ⟨D, f2, by rw [c1], rfl⟩, fun c => absurd c bad⟩
theorem case_planned {M : MM} {T : Nat} (I : Inv M T) (hT : T ≤ 20000) (a b : Int32) : ∃ (r : Int64) (M1 M2 : MM), Fn 15 mX9_planned [.ref 0, .int a, .int b] M (some (.long r)) M1 ∧ Fn 5 mX10_planned [.ref 72, .int a, .int b] M1 (some (.long r)) M2 ∧ Inv M2 T := by
  by_cases bad : wth a 1 6 = 0 ∨ wth b 0 1 = 0
  · refine ⟨-1, M, M, fn_intro ok_X9_planned (Nat.le_of_ble_eq_true rfl) fun G g gr => ?_, fn_intro ok_X10_planned (Nat.le_of_ble_eq_true rfl) fun G g gr => ?_, I⟩
    · refine b_X9_planned_0 g gr (by decide) a b M ⟨_, _, fn_X9_isPlanned _ _, fun _ => ⟨rfl, rfl⟩, fun n1 => ⟨_, _, fn_X9_within _ _ _ _, fun n2 => ?_, fun _ => ⟨rfl, rfl⟩⟩⟩
      rcases bad with h | h
      · exact absurd h n1
      · exact absurd h n2
    · refine b_X10_planned_0 g gr (by decide) a b M ⟨_, _, fin a 1 6 rfl rfl M, fun _ => ⟨rfl, rfl⟩, fun n1 => ⟨_, _, fin b 0 1 rfl rfl M, fun n2 => ?_, fun _ => ⟨rfl, rfl⟩⟩⟩
      rcases bad with h | h
      · exact absurd h n1
      · exact absurd h n2
  · have n1 : ¬ wth a 1 6 = 0 := fun h => bad (Or.inl h)
    have n2 : ¬ wth b 0 1 = 0 := fun h => bad (Or.inr h)
    obtain ⟨n, h1, hn, rfl⟩ := toNI (lo := 1) (hi := 6) (by omega) (by omega) n1
    obtain ⟨C, D, B, f1, f2, o1, o2, ⟨b1, b2, b3⟩, ⟨c1, c2, c3⟩, -⟩ := two_find I hT h1 hn
    refine ⟨if b = 0 then lN B.2.1 else lN B.1, C, D, fn_intro ok_X9_planned (Nat.le_of_ble_eq_true rfl) fun G g gr => ?_, fn_intro ok_X10_planned (Nat.le_of_ble_eq_true rfl) fun G g gr => ?_, inv_find I o1 o2⟩
    · exact b_X9_planned_0 g gr (by decide) _ b M ⟨_, _, fn_X9_isPlanned _ _, fun c => absurd c n1, fun _ => ⟨_, _, fn_X9_within _ _ _ _, fun _ => ⟨C, f1, by rw [b1, b2], rfl⟩, fun c => absurd c n2⟩⟩
    · exact b_X10_planned_0 g gr (by decide) _ b C ⟨_, _, fin _ 1 6 rfl rfl C, fun c => absurd c n1, fun _ => ⟨_, _, fin b 0 1 rfl rfl C, fun _ => ⟨D, f2, by rw [c2, c3], rfl⟩, fun c => absurd c n2⟩⟩
theorem case_judge {M : MM} {T : Nat} (I : Inv M T) (hT : T ≤ 20000) (a b c : Int32) : ∃ (r : Int64) (M1 M2 : MM), Fn 7 mX9_judge [.ref 0, .int a, .int b, .int c] M (some (.long r)) M1 ∧ Fn 4 mX10_judge [.ref 72, .int a, .int b, .int c] M1 (some (.long r)) M2 ∧ Inv M2 T := by
  obtain ⟨X, V, E, EMm⟩ := inv_x I hT
  by_cases bad : wth a 1 6 = 0
  · refine ⟨-1, M, M, fn_intro ok_X9_judge (Nat.le_of_ble_eq_true rfl) fun G g gr => ?_, fn_intro ok_X10_judge (Nat.le_of_ble_eq_true rfl) fun G g gr => ?_, I⟩
    · exact b_X9_judge_0 g gr (by decide) a b c M ⟨_, _, fn_X9_isPlanned _ _, fun _ => ⟨rfl, rfl⟩, fun h => absurd bad h⟩
    · exact b_X10_judge_0 g gr (by decide) a b c M ⟨_, _, fn_X10_isPlan_bad bad, fun _ => ⟨rfl, rfl⟩, fun h => absurd rfl h⟩
  · obtain ⟨n, h1, hn, rfl⟩ := toNI (lo := 1) (hi := 6) (by omega) (by omega) bad
    have hpn := pow_n hn
    by_cases hp : ∃ x : Nat, x < 4 ^ n ∧ b = nI x ∧ isP X n x
    · obtain ⟨x, hx, rfl, hP⟩ := hp
      have hx4 : x < 4096 := by omega
      have hpl : plN X n (nI x) 1 := Or.inl ⟨x, hx, rfl, hP, rfl⟩
      have f9 := fn_X3_isPlan V E hn hpl
      have s9 : ∀ (r : Option Value) (C : MM), (∀ G, Good G mX9_judge 7 → GoodR G r C → ((c = (0 : Int32) → (∃ (r11 : Int32) (M9 : MM), Fn 5 mX3_isWell [.ref 37, .int (nI n), .int (nI x)] M (some (.int r11)) M9 ∧ (r = some (.long (if r11 = (0 : Int32) then 0 else 1)) ∧ C = M9))) ∧ (c = (1 : Int32) → (∃ (r15 : Int64) (M13 : MM), Fn 4 mX3_costOf [.ref 37, .int (nI n), .int (nI x)] M (some (.long r15)) M13 ∧ (r = some (.long r15) ∧ C = M13))) ∧ (c = (2 : Int32) → (∃ (r18 : Int64) (M16 : MM), Fn 6 mX3_breachOf [.ref 37, .int (nI n), .int (nI x)] M (some (.long r18)) M16 ∧ (r = some (.long r18) ∧ C = M16))) ∧ (¬ c = (0 : Int32) → ¬ c = (1 : Int32) → ¬ c = (2 : Int32) → (r = some (.long (-1)) ∧ C = M)))) → Fn 7 mX9_judge [.ref 0, .int (nI n), .int (nI x), .int c] M r C := fun r C hh => fn_intro ok_X9_judge (Nat.le_of_ble_eq_true rfl) fun G g gr =>
        b_X9_judge_0 g gr (by decide) _ _ c M ⟨_, _, fn_X9_isPlanned _ _, fun h => absurd h bad, fun _ => ⟨_, _, f9, fun _ => hh G g gr, fun h => absurd h (by decide)⟩⟩
      have s10 : ∀ (N : MM), EM X N → ∀ (r : Option Value) (C : MM), (∀ G, Good G mX10_judge 4 → GoodR G r C → (∃ (r7 : Int32) (M5 : MM), Fn 1 mX10_in [.long (c.toInt64), .long 0, .long 2] N (some (.int r7)) M5 ∧ ((¬ r7 = (0 : Int32) → ((¬ c = (0 : Int32) → ((¬ c = (1 : Int32) → (∃ (r13 : Int64) (M11 : MM), Fn 3 mX10_breachOf [.ref 72, .int (nI n), .int (nI x)] M5 (some (.long r13)) M11 ∧ (r = some (.long r13) ∧ C = M11))) ∧ (c = (1 : Int32) → (∃ (r16 : Int64) (M14 : MM), Fn 2 mX10_costOf [.ref 72, .int (nI n), .int (nI x)] M5 (some (.long r16)) M14 ∧ (r = some (.long r16) ∧ C = M14))))) ∧ (c = (0 : Int32) → (∃ (r19 : Int32) (M17 : MM), Fn 2 mX10_isWell [.ref 72, .int (nI n), .int (nI x)] M5 (some (.int r19)) M17 ∧ (r = some (.long (if r19 = (0 : Int32) then 0 else 1)) ∧ C = M17))))) ∧ (r7 = (0 : Int32) → (r = some (.long (-1)) ∧ C = M5))))) → Fn 4 mX10_judge [.ref 72, .int (nI n), .int (nI x), .int c] N r C := fun N EN r C hh => fn_intro ok_X10_judge (Nat.le_of_ble_eq_true rfl) fun G g gr =>
        b_X10_judge_0 g gr (by decide) _ _ c N ⟨_, _, fn_X10_isPlan V EN h1 hn hpl, fun h => absurd h (by decide), fun _ => hh G g gr⟩
      by_cases c0 : c = 0
      · subst c0
        obtain ⟨v, hv⟩ : ∃ v, Flg (Wel X n x) v := by
          by_cases h : Wel X n x
          · exact ⟨1, Or.inl ⟨h, rfl⟩⟩
          · exact ⟨0, Or.inr ⟨h, rfl⟩⟩
        refine ⟨if v = 0 then 0 else 1, M, M, s9 _ _ fun G g gr => ⟨fun _ => ⟨v, M, fn_X3_isWell V E hx4 hn hv, rfl, rfl⟩, fun h => absurd h (by decide), fun h => absurd h (by decide), fun h => absurd rfl h⟩, s10 M EMm _ _ fun G g gr => ⟨_, _, fin 0 0 2 rfl rfl M, fun _ => ⟨fun h => absurd rfl h, fun _ => ⟨v, M, fn_X10_isWell V EMm hx4 hn hv, rfl, rfl⟩⟩, fun h => absurd h (by decide)⟩, I⟩
      by_cases c1 : c = 1
      · subst c1
        exact ⟨lN (cT X x n), M, M, s9 _ _ fun G g gr => ⟨fun h => absurd h (by decide), fun _ => ⟨_, _, fn_X3_costOf V E hx4 hn, rfl, rfl⟩, fun h => absurd h (by decide), fun _ h => absurd rfl h⟩, s10 M EMm _ _ fun G g gr => ⟨_, _, fin 1 0 2 rfl rfl M, fun _ => ⟨fun _ => ⟨fun h => absurd rfl h, fun _ => ⟨_, _, fn_X10_costOf V EMm hx4 hn hP, rfl, rfl⟩⟩, fun h => absurd h (by decide)⟩, fun h => absurd h (by decide)⟩, I⟩
      by_cases c2 : c = 2
      · subst c2
        obtain ⟨C, f1, o1⟩ := fn_X3_breachOf V E hx4 hn
        have EMc : EM X C := EMm.pl o1
        obtain ⟨D, f2, o2, -⟩ := fn_X10_breachOf V EMc hx4 hn hP
        have o2' : OM C D := ⟨fun j _ h => o2 j h, fun i _ => by rw [o2 72 (by omega)]⟩
        exact ⟨lN (bT X x n), C, D, s9 _ _ fun G g gr => ⟨fun h => absurd h (by decide), fun h => absurd h (by decide), fun _ => ⟨_, _, f1, rfl, rfl⟩, fun _ _ h => absurd rfl h⟩, s10 C EMc _ _ fun G g gr => ⟨_, _, fin 2 0 2 rfl rfl C, fun _ => ⟨fun _ => ⟨fun _ => ⟨_, _, f2, rfl, rfl⟩, fun h => absurd h (by decide)⟩, fun h => absurd h (by decide)⟩, fun h => absurd h (by decide)⟩, inv_find I o1 o2'⟩
      · have n3 : wth c 0 2 = 0 := by
          rcases wth_nI (lo := 0) (hi := 2) (by omega) (by omega) c with h | ⟨j, -, hj, rfl⟩
          · exact h
          · exfalso
            rcases (show j = 0 ∨ j = 1 ∨ j = 2 by omega) with rfl | rfl | rfl
            · exact c0 rfl
            · exact c1 rfl
            · exact c2 rfl
        exact ⟨-1, M, M, s9 _ _ fun G g gr => ⟨fun h => absurd h c0, fun h => absurd h c1, fun h => absurd h c2, fun _ _ _ => ⟨rfl, rfl⟩⟩, s10 M EMm _ _ fun G g gr => ⟨_, _, fin c 0 2 rfl rfl M, fun h => absurd n3 h, fun _ => ⟨rfl, rfl⟩⟩, I⟩
    · have hpl : plN X n b 0 := Or.inr ⟨fun x hx e h => hp ⟨x, hx, e, h⟩, rfl⟩
      refine ⟨-1, M, M, fn_intro ok_X9_judge (Nat.le_of_ble_eq_true rfl) fun G g gr => ?_, fn_intro ok_X10_judge (Nat.le_of_ble_eq_true rfl) fun G g gr => ?_, I⟩
      · exact b_X9_judge_0 g gr (by decide) _ b c M ⟨_, _, fn_X9_isPlanned _ _, fun h => absurd h bad, fun _ => ⟨_, _, fn_X3_isPlan V E hn hpl, fun h => absurd rfl h, fun _ => ⟨rfl, rfl⟩⟩⟩
      · exact b_X10_judge_0 g gr (by decide) _ b c M ⟨_, _, fn_X10_isPlan V EMm h1 hn hpl, fun _ => ⟨rfl, rfl⟩, fun h => absurd rfl h⟩

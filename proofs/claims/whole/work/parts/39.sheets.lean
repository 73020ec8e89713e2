/-! tides, sheet, lay -/
theorem inv_tides {M M2 : MM} {T : Nat} (I : Inv M T) (ho : ∀ k, k ≠ 30 → k ≠ 94 → M2.1 k = M.1 k) (he : M2.1 94 = M2.1 30) : Inv M2 T := by
  obtain ⟨nd, nw, np, ns, nwd, h, bb, i1, i2, i3, i4, i5, i6, i7⟩ := I
  refine ⟨nd, nw, np, ns, nwd, h, bb, ?_, ?_, ?_, i4.congr (fun k hk => ho k (by omega) (by omega)), i5.congr (fun k hk => ho k (by omega) (by omega)), ?_, i7⟩
  · unfold Sz
    rw [ho 2 (by omega) (by omega), ho 72 (by omega) (by omega), ho 10 (by omega) (by omega), ho 15 (by omega) (by omega), ho 22 (by omega) (by omega), ho 32 (by omega) (by omega), ho 1 (by omega) (by omega), ho 89 (by omega) (by omega)]
    exact i1
  · intro z hz
    have h1 : ∀ z ∈ prs, z.1 ≤ 31 ∧ 73 ≤ z.2 ∧ (z.1 = 30 ↔ z.2 = 94) := by decide
    obtain ⟨q1, q2, q3⟩ := h1 z hz
    by_cases e : z.1 = 30
    · rw [e, q3.mp e, he]
    · rw [ho _ (by omega) (by omega), ho _ (by omega) (by omega)]
      exact i2 z hz
  · unfold VLd
    rw [ho 3 (by omega) (by omega), ho 4 (by omega) (by omega), ho 5 (by omega) (by omega), ho 6 (by omega) (by omega), ho 11 (by omega) (by omega), ho 12 (by omega) (by omega), ho 14 (by omega) (by omega), ho 16 (by omega) (by omega), ho 17 (by omega) (by omega), ho 18 (by omega) (by omega), ho 19 (by omega) (by omega), ho 20 (by omega) (by omega), ho 23 (by omega) (by omega), ho 24 (by omega) (by omega), ho 25 (by omega) (by omega), ho 31 (by omega) (by omega)]
    exact i3
  · rw [ho 7 (by omega) (by omega)]
    exact i6
theorem inv_cells {M M2 : MM} {T : Nat} (I : Inv M T) (ho : ∀ k, k < 66 ∨ (71 < k ∧ k < 104) → M2.1 k = M.1 k) (hv : VS M2) : Inv M2 T := by
  obtain ⟨nd, nw, np, ns, nwd, h, bb, i1, i2, i3, i4, i5, i6, i7⟩ := I
  refine ⟨nd, nw, np, ns, nwd, h, bb, ?_, ?_, ?_, i4.congr (fun k hk => ho k (by omega)), hv, ?_, i7⟩
  · unfold Sz
    rw [ho 2 (by omega), ho 72 (by omega), ho 10 (by omega), ho 15 (by omega), ho 22 (by omega), ho 32 (by omega), ho 1 (by omega), ho 89 (by omega)]
    exact i1
  · intro z hz
    have h1 : ∀ z ∈ prs, z.1 ≤ 31 ∧ 73 ≤ z.2 ∧ z.2 < 104 := by decide
    have := h1 z hz
    rw [ho _ (by omega), ho _ (by omega)]
    exact i2 z hz
  · exact i3.congr fun k hk => (ho k (by have := rowL_le k hk; omega)).symm
  · rw [ho 7 (by omega)]
    exact i6
theorem tides_loop {k z l : Nat} {f : Int32} (hk : k < 4) {M : MM} (S : Shv M k z l) : ∀ (m i : Nat), i + m = 24 →
    (∃ r : Int32, (∀ G, Good G mX9_tides 3 → GoodR G (some (.int r)) M → At_X9_tides_41 G (nI k) (nI l) f 0 (nI i) M) ∧ (∀ G, Good G mX10_tides 3 → GoodR G (some (.int r)) M → At_X10_tides_42 G (nI k) (nI l) f (nI i) M)) ∨
    ((∀ q, i ≤ q → q < 24 → ∃ j, j < z ∧ f + nI q = nI j) ∧ (∀ G r C, Good G mX9_tides 3 → GoodR G r C → At_X9_tides_41 G (nI k) (nI l) f 0 24 M → At_X9_tides_41 G (nI k) (nI l) f 0 (nI i) M) ∧ (∀ G r C N, N.1 105 = M.1 105 → N.1 106 = M.1 106 → Good G mX10_tides 3 → GoodR G r C → At_X10_tides_42 G (nI k) (nI l) f 24 N → At_X10_tides_42 G (nI k) (nI l) f (nI i) N))
  | 0, i, him => by
    have : i = 24 := by omega
    subst this
    exact Or.inr ⟨fun q h1 h2 => by omega, fun G r C _ _ h => h, fun G r C N _ _ _ _ h => h⟩
  | m + 1, i, him => by
    obtain ⟨hz, hl, z1, z2, z3, z4, zc⟩ := id S
    have hlt : ¬ (24 : Int32) ≤ nI i := by rw [show (24 : Int32) = nI 24 from rfl, nI_leI (by omega) (by omega)]; omega
    have ck : (nI k).toNatClampNeg = k := nI_clamp (by omega)
    have hs : shp (66 + k) = (1, 0, 60, []) := by
      rcases (show k = 0 ∨ k = 1 ∨ k = 2 ∨ k = 3 by omega) with rfl | rfl | rfl | rfl <;> rfl
    rcases sh_ix f (i := i) (z := z) (by omega) hz with ⟨b1, b2⟩ | ⟨j, hj, e1, e2⟩
    · refine Or.inl ⟨-12, fun G g gr => ?_, fun G g gr => ?_⟩
      · refine b_X9_tides_41 g gr (by decide) _ _ _ _ _ _ ⟨fun c => absurd c hlt, fun _ => ⟨_, _, fn_hasCell hk (f + nI i), ?_⟩⟩
        rw [z1, b1]
        exact ⟨fun e => absurd rfl e, fun _ => ⟨rfl, rfl⟩⟩
      · refine b_X10_tides_42 g gr (by decide) _ _ _ _ _ ⟨fun c => absurd c hlt, fun _ => ⟨_, _, fn_bars_no (z := z) hk z2 b2, ?_⟩⟩
        exact ⟨fun e => absurd e (by decide), fun _ => ⟨rfl, rfl⟩⟩
    · have cj : (nI j).toNatClampNeg = j := nI_clamp (by omega)
      by_cases bad : wth (M.1 106 (60 * k + j)) (-500) 500 = 0
      · refine Or.inl ⟨-20 - nI i, fun G g gr => ?_, fun G g gr => ?_⟩
        · refine b_X9_tides_41 g gr (by decide) _ _ _ _ _ _ ⟨fun c => absurd c hlt, fun _ => ⟨_, _, fn_hasCell hk (f + nI i), ?_⟩⟩
          rw [z1, e1, hasC_in hz hj, ck, cj, zc j (by omega)]
          exact ⟨fun _ => ⟨vp_in_nI hk (by omega), hs, vp_in_nI (by omega) (by omega), _, _, fn_X9_isHeight _ _, fun c => absurd bad c, fun _ => ⟨rfl, rfl⟩⟩, fun e => absurd e (by decide)⟩
        · refine b_X10_tides_42 g gr (by decide) _ _ _ _ _ ⟨fun c => absurd c hlt, fun _ => ⟨_, _, fn_bars_in (z := z) hk z2 hz hj e2, ?_⟩⟩
          rw [if_pos bad]
          exact ⟨fun e => absurd e (neg20 i (by omega)), fun _ => ⟨rfl, rfl⟩⟩
      · have c9 : ∀ G r C, Good G mX9_tides 3 → GoodR G r C → At_X9_tides_41 G (nI k) (nI l) f 0 (nI (i + 1)) M → At_X9_tides_41 G (nI k) (nI l) f 0 (nI i) M := fun G r C g gr nx => by
          refine b_X9_tides_41 g gr (by decide) _ _ _ _ _ _ ⟨fun c => absurd c hlt, fun _ => ⟨_, _, fn_hasCell hk (f + nI i), ?_⟩⟩
          rw [z1, e1, hasC_in hz hj, ck, cj, zc j (by omega)]
          refine ⟨fun _ => ⟨vp_in_nI hk (by omega), hs, vp_in_nI (by omega) (by omega), _, _, fn_X9_isHeight _ _, fun _ x ex => ?_, fun c => absurd c bad⟩, fun e => absurd e (by decide)⟩
          rw [ex, nI_1]
          exact nx
        have c10 : ∀ G r C N, N.1 105 = M.1 105 → N.1 106 = M.1 106 → Good G mX10_tides 3 → GoodR G r C → At_X10_tides_42 G (nI k) (nI l) f (nI (i + 1)) N → At_X10_tides_42 G (nI k) (nI l) f (nI i) N := fun G r C N n1 n2 g gr nx => by
          refine b_X10_tides_42 g gr (by decide) _ _ _ _ _ ⟨fun c => absurd c hlt, fun _ => ⟨_, _, fn_bars_in (z := z) hk (by rw [n1]; exact z2) hz hj e2, ?_⟩⟩
          rw [n2, if_neg bad]
          refine ⟨fun _ x ex => ?_, fun c => absurd (by decide) c⟩
          rw [ex, nI_1]
          exact nx
        rcases tides_loop hk S m (i + 1) (by omega) with ⟨r, h1, h2⟩ | ⟨h1, h2, h3⟩
        · exact Or.inl ⟨r, fun G g gr => c9 G _ _ g gr (h1 G g gr), fun G g gr => c10 G _ _ M rfl rfl g gr (h2 G g gr)⟩
        · refine Or.inr ⟨fun q q1 q2 => ?_, fun G r C g gr h => c9 G r C g gr (h2 G r C g gr h), fun G r C N n1 n2 g gr h => c10 G r C N n1 n2 g gr (h3 G r C N n1 n2 g gr h)⟩
          by_cases e : q = i
          · subst e; exact ⟨j, hj, e1⟩
          · exact h1 q (by omega) q2
theorem tides_put {k j0 : Nat} {l : Int32} (hk : k < 4) (hj : j0 + 24 ≤ 60) {G : GC} {N : MM} {r : Option Value} {C : MM} (hr : r = some (.int 1)) (hC : C = uc N 94 (pre 24 (fun i => N.1 106 (60 * k + (j0 + i))) (N.1 94))) (g : Good G mX10_tides 3) (gr : GoodR G r C) : ∀ (m i : Nat), i + m = 24 → At_X10_tides_82 G (nI k) l (nI j0) (nI i) (uc N 94 (pre i (fun i => N.1 106 (60 * k + (j0 + i))) (N.1 94)))
  | 0, i, him => by
    have : i = 24 := by omega
    subst this
    exact b_X10_tides_82 g gr (by decide) _ _ _ _ _ ⟨fun _ => ⟨hr, hC⟩, fun c => absurd (by decide) c⟩
  | m + 1, i, him => by
    have hlt : ¬ (24 : Int32) ≤ nI i := by rw [show (24 : Int32) = nI 24 from rfl, nI_leI (by omega) (by omega)]; omega
    have ci : (60 * nI k + nI j0 : Int32) + nI i = nI (60 * k + (j0 + i)) := cell_ix (by rw [nI_add])
    refine b_X10_tides_82 g gr (by decide) _ _ _ _ _ ⟨fun c => absurd c hlt, fun _ => ⟨by rw [ci]; exact vp_in_nI (by omega) (by omega), vp_in_nI (by omega) (by omega), ?_⟩⟩
    rw [ci, nI_clamp (show 60 * k + (j0 + i) < 2 ^ 31 by omega), nI_clamp (show i < 2 ^ 31 by omega)]
    intro Q eQ x ex
    rw [eQ, ex, ui_row, uc_at, uc_ne (show 106 ≠ 94 by decide), uc_uc, nI_1]
    have := pre_s i (fun i => N.1 106 (60 * k + (j0 + i))) (N.1 94)
    rw [this]
    exact tides_put hk hj hr hC g gr m (i + 1) (by omega)
theorem case_tides {M : MM} {T : Nat} (I : Inv M T) (a b f : Int32) : ∃ (r : Int32) (M1 M2 : MM), Fn 3 mX9_tides [.ref 0, .int a, .int b, .int f] M (some (.int r)) M1 ∧ Fn 3 mX10_tides [.ref 72, .int a, .int b, .int f] M1 (some (.int r)) M2 ∧ Inv M2 T := by
  by_cases bad : wth a 0 3 = 0 ∨ wth b 0 2 = 0
  · refine ⟨-1, M, M, fn_intro ok_X9_tides (Nat.le_of_ble_eq_true rfl) fun G g gr => ?_, fn_intro ok_X10_tides (Nat.le_of_ble_eq_true rfl) fun G g gr => ?_, I⟩
    · refine b_X9_tides_0 g gr (by decide) a b f M ⟨_, _, fn_X9_isSheet _ _, fun _ => ⟨rfl, rfl⟩, fun n1 => ⟨_, _, fn_X9_isLane _ _, fun n2 => ?_, fun _ => ⟨rfl, rfl⟩⟩⟩
      rcases bad with h | h
      · exact absurd h n1
      · exact absurd h n2
    · refine b_X10_tides_0 g gr (by decide) a b f M ⟨_, _, fn_X10_isSheet _ _ _, fun n1 => ?_, fun _ => ⟨rfl, rfl⟩⟩
      rcases bad with h | h
      · exact absurd (by rw [if_pos h]) n1
      · exact absurd (by rw [h]; exact ite_self 0) n1
  · have n1 : ¬ wth a 0 3 = 0 := fun h => bad (Or.inl h)
    have n2 : ¬ wth b 0 2 = 0 := fun h => bad (Or.inr h)
    have n12 : ¬ (if wth a 0 3 = 0 then 0 else wth b 0 2) = 0 := by rw [if_neg n1]; exact n2
    obtain ⟨k, -, hk3, rfl⟩ := toNI (lo := 0) (hi := 3) (by omega) (by omega) n1
    obtain ⟨l', -, hl', rfl⟩ := toNI (lo := 0) (hi := 2) (by omega) (by omega) n2
    have hk : k < 4 := by omega
    have ck : (nI k).toNatClampNeg = k := nI_clamp (by omega)
    obtain ⟨nd, nw, np, ns, nwd, h, bb, i1, i2, i3, i4, i5, i6, i7⟩ := id I
    have start9 : ∀ (r : Option Value) (C : MM), (∀ G, Good G mX9_tides 3 → GoodR G r C → ((fltV M k (nI l') = 0 → At_X9_tides_41 G (nI k) (nI l') f (fltV M k (nI l')) 0 M) ∧ (¬ fltV M k (nI l') = 0 → r = some (.int (-10 - fltV M k (nI l'))) ∧ C = M))) → Fn 3 mX9_tides [.ref 0, .int (nI k), .int (nI l'), .int f] M r C := fun r C hx => fn_intro ok_X9_tides (Nat.le_of_ble_eq_true rfl) fun G g gr =>
      b_X9_tides_0 g gr (by decide) _ _ f M ⟨_, _, fn_X9_isSheet _ _, fun e => absurd e n1, fun _ => ⟨_, _, fn_X9_isLane _ _, fun _ => ⟨_, _, fn_faultAs hk _, hx G g gr⟩, fun e => absurd e n2⟩⟩
    have start10 : ∀ (N : MM) (r : Option Value) (C : MM), (∀ G, Good G mX10_tides 3 → GoodR G r C → ((N.1 104 k = nI l' → At_X10_tides_42 G (nI k) (nI l') f 0 N) ∧ (¬ N.1 104 k = nI l' → r = some (.int (if N.1 104 k = -4 then -11 else -13)) ∧ C = N))) → Fn 3 mX10_tides [.ref 72, .int (nI k), .int (nI l'), .int f] N r C := fun N r C hx => fn_intro ok_X10_tides (Nat.le_of_ble_eq_true rfl) fun G g gr => by
      refine b_X10_tides_0 g gr (by decide) _ _ f N ⟨_, _, fn_X10_isSheet _ _ _, fun _ => ⟨vp_in_nI hk (by omega), ?_⟩, fun e => absurd e n12⟩
      rw [ck]
      exact hx G g gr
    rcases shv_of i5 hk with ⟨e1, e2⟩ | ⟨z, l, SV⟩
    · refine ⟨-11, M, M, start9 _ _ fun G g gr => ?_, start10 _ _ _ fun G g gr => ?_, I⟩
      · unfold fltV
        rw [if_pos e1]
        exact ⟨fun e => absurd e (by decide), fun _ => ⟨rfl, rfl⟩⟩
      · rw [e2]
        exact ⟨fun e => absurd e.symm (nI_m4 l' (by omega)), fun _ => ⟨rfl, rfl⟩⟩
    · obtain ⟨q1, q2, q3, q4, q5, q6, q7⟩ := id SV
      by_cases el : l = l'
      · subst el
        have ef : fltV M k (nI l) = 0 := by
          unfold fltV
          rw [q3, if_neg (nI_m1 z q1), if_pos q5]
        have hs : shp (66 + k) = (1, 0, 60, []) := by
          rcases (show k = 0 ∨ k = 1 ∨ k = 2 ∨ k = 3 by omega) with rfl | rfl | rfl | rfl <;> rfl
        rcases tides_loop hk SV 24 0 (by omega) with ⟨r, h1, h2⟩ | ⟨h1, h2, h3⟩
        · refine ⟨r, M, M, start9 _ _ fun G g gr => ?_, start10 _ _ _ fun G g gr => ?_, I⟩
          · rw [ef]
            exact ⟨fun _ => h1 G g gr, fun e => absurd rfl e⟩
          · exact ⟨fun _ => h2 G g gr, fun e => absurd q6 e⟩
        · obtain ⟨j0, hj0, e0⟩ := h1 0 (by omega) (by omega)
          obtain ⟨j3, hj3, e3⟩ := h1 23 (by omega) (by omega)
          have ef0 : f = nI j0 := by rw [← e0, nI_0, Int32.add_zero]
          subst ef0
          have hj : j0 + 24 ≤ z := by
            rw [nI_add] at e3
            have := congrArg Int32.toInt e3
            rw [nI_toInt (by omega), nI_toInt (by omega)] at this
            omega
          have cj : (nI j0).toNatClampNeg = j0 := nI_clamp (by omega)
          have ecp : va_cpy (M.1 (66 + k)) (M.1 30) j0 0 24 = pre 24 (fun i => M.1 106 (60 * k + (j0 + i))) (M.1 30) := by
            funext i
            unfold va_cpy pre
            by_cases c : i < 24
            · rw [if_pos ⟨by omega, by omega⟩, if_pos c, q7 _ (by omega)]
              congr 1
            · rw [if_neg (by omega), if_neg c]
          refine ⟨1, uc M 30 (pre 24 (fun i => M.1 106 (60 * k + (j0 + i))) (M.1 30)), uc (uc M 30 (pre 24 (fun i => M.1 106 (60 * k + (j0 + i))) (M.1 30))) 94 (pre 24 (fun i => M.1 106 (60 * k + (j0 + i))) (M.1 30)), start9 _ _ fun G g gr => ?_, start10 _ _ _ fun G g gr => ?_, inv_tides I (fun q c1 c2 => by rw [uc_ne c2, uc_ne c1]) (by rw [uc_at, uc_ne (by decide), uc_at])⟩
          · rw [ef]
            refine ⟨fun _ => h2 G _ _ g gr ?_, fun e => absurd rfl e⟩
            refine b_X9_tides_41 g gr (by decide) _ _ _ _ _ _ ⟨fun _ => ⟨vp_in_nI hk (by omega), by rw [ck]; exact hs, ?_, by decide, by decide, ?_, by decide, ?_⟩, fun c => absurd (by decide) c⟩
            · rw [Int32.lt_iff_toInt_lt, nI_toInt (by omega), show (0 : Int32).toInt = 0 by decide]; omega
            · rw [cj, show (24 : Int32).toNatClampNeg = 24 by decide]; omega
            · rw [ck, cj, show (24 : Int32).toNatClampNeg = 24 by decide, show (0 : Int32).toNatClampNeg = 0 by decide, ecp]
              intro Q eQ
              exact ⟨rfl, eQ.symm⟩
          · rw [uc_ne (show 104 ≠ 30 by decide)]
            refine ⟨fun _ => h3 G _ _ _ (by rw [uc_ne (by decide)]) (by rw [uc_ne (by decide)]) g gr ?_, fun e => absurd q6 e⟩
            refine b_X10_tides_42 g gr (by decide) _ _ _ _ _ ⟨fun _ => ?_, fun c => absurd (by decide) c⟩
            have e94 : M.1 94 = M.1 30 := i2 (30, 94) (by decide)
            have := tides_put (k := k) (j0 := j0) (l := nI l) (N := uc M 30 (pre 24 (fun i => M.1 106 (60 * k + (j0 + i))) (M.1 30))) hk (by omega) rfl (by rw [uc_ne (show 106 ≠ 30 by decide), uc_ne (show 94 ≠ 30 by decide), e94]) g gr 24 0 (by omega)
            rw [pre_0, uc_self] at this
            exact this
      · have ne := nI_ne (a := l) (b := l') (by omega) (by omega) el
        refine ⟨-13, M, M, start9 _ _ fun G g gr => ?_, start10 _ _ _ fun G g gr => ?_, I⟩
        · unfold fltV
          rw [q3, if_neg (nI_m1 z q1), if_neg (by rw [q5]; exact ne)]
          exact ⟨fun e => absurd e (by decide), fun _ => ⟨rfl, rfl⟩⟩
        · rw [q6, if_neg (nI_m4 l q2)]
          exact ⟨fun e => absurd e ne, fun _ => ⟨rfl, rfl⟩⟩

/-! rain, tides -/
def Shv (P : MM) (k z l : Nat) : Prop := z ≤ 60 ∧ l < 3 ∧ P.1 71 k = nI z ∧ P.1 105 k = nI z ∧ P.1 70 k = nI l ∧ P.1 104 k = nI l ∧ ∀ j, j < 60 → P.1 (66 + k) j = P.1 106 (60 * k + j)
theorem cell_ix {f : Int32} {k i j : Nat} (e : f + nI i = nI j) : (60 * nI k + f : Int32) + nI i = nI (60 * k + j) := by
  rw [Int32.add_assoc, e, show (60 : Int32) = nI 60 from rfl, pk_mul, nI_add]
theorem neg20 : ∀ i, i < 25 → ¬ (0 : Int32) ≤ -20 - nI i := by decide
theorem nI_ne {a b : Nat} (ha : a < 2 ^ 31) (hb : b < 2 ^ 31) (h : a ≠ b) : nI a ≠ nI b := fun e => h (by
  have := congrArg Int32.toInt e
  rw [nI_toInt ha, nI_toInt hb] at this
  omega)
theorem rain_loop {k z l n : Nat} {f : Int32} (hk : k < 4) (hn : n ≤ 24) : ∀ (m i : Nat) (a : Int32) (C P : MM) (T : Nat), i + m = n → T + m ≤ 20000 → Inv P T → (∀ q, q < 72 → P.1 q = C.1 q) → Shv P k z l →
    ∃ (r : Int32) (C' Q : MM), (∀ G, Good G mX9_rain 6 → GoodR G (some (.int r)) C' → At_X9_rain_55 G (nI k) (nI l) f (nI n) 0 a (nI i) C) ∧ Inv Q (T + m) ∧ (∀ q, q < 72 → Q.1 q = C'.1 q) ∧ (∀ q, 72 ≤ q → C'.1 q = C.1 q) ∧
      ∀ D : MM, (∀ q, 72 ≤ q → P.1 q = D.1 q) → ∃ D', (∀ G, Good G mX10_rain 5 → GoodR G (some (.int r)) D' → At_X10_rain_58 G (nI k) (nI l) f (nI n) a (nI i) D) ∧ (∀ q, 72 ≤ q → Q.1 q = D'.1 q) ∧ (∀ q, q < 72 → D'.1 q = D.1 q)
  | 0, i, a, C, P, T, him, _, I, hC, _ => by
    refine ⟨a, C, P, fun G g gr => ?_, I, hC, fun _ _ => rfl, fun D hD => ⟨D, fun G g gr => ?_, hD, fun _ _ => rfl⟩⟩
    · exact b_X9_rain_55 g gr (by decide) _ _ _ _ _ _ _ _ ⟨fun _ => ⟨rfl, rfl⟩, fun c => absurd (nI_le (by omega) (by omega)) c⟩
    · exact b_X10_rain_58 g gr (by decide) _ _ _ _ _ _ _ ⟨fun _ => ⟨rfl, rfl⟩, fun c => absurd (nI_le (by omega) (by omega)) c⟩
  | m + 1, i, a, C, P, T, him, hT, I, hC, ⟨hz, hl, z1, z2, z3, z4, zc⟩ => by
    have hlt : ¬ (nI n : Int32) ≤ nI i := by rw [nI_leI (by omega) (by omega)]; omega
    have ck : (nI k).toNatClampNeg = k := nI_clamp (by omega)
    have c71 : C.1 71 k = nI z := by rw [← hC 71 (by decide)]; exact z1
    have hs : shp (66 + k) = (1, 0, 60, []) := by
      rcases (show k = 0 ∨ k = 1 ∨ k = 2 ∨ k = 3 by omega) with rfl | rfl | rfl | rfl <;> rfl
    rcases sh_ix f (i := i) (z := z) (by omega) hz with ⟨b1, b2⟩ | ⟨j, hj, e1, e2⟩
    · refine ⟨-12, C, P, fun G g gr => ?_, I.mono (by omega), hC, fun _ _ => rfl, fun D hD => ⟨D, fun G g gr => ?_, hD, fun _ _ => rfl⟩⟩
      · refine b_X9_rain_55 g gr (by decide) _ _ _ _ _ _ _ _ ⟨fun c => absurd c hlt, fun _ => ⟨_, _, fn_hasCell hk (f + nI i), ?_⟩⟩
        rw [c71, b1]
        exact ⟨fun e => absurd rfl e, fun _ => ⟨rfl, rfl⟩⟩
      · refine b_X10_rain_58 g gr (by decide) _ _ _ _ _ _ _ ⟨fun c => absurd c hlt, fun _ => ⟨_, _, fn_bars_no (z := z) hk (by rw [← hD 105 (by decide)]; exact z2) b2, ?_⟩⟩
        exact ⟨fun e => absurd e (by decide), fun _ => ⟨rfl, rfl⟩⟩
    · have cj : (nI j).toNatClampNeg = j := nI_clamp (by omega)
      have ce : C.1 (66 + k) j = P.1 106 (60 * k + j) := by rw [← hC _ (by omega)]; exact zc j (by omega)
      by_cases bad : wth (P.1 106 (60 * k + j)) 0 100 = 0
      · refine ⟨-20 - nI i, C, P, fun G g gr => ?_, I.mono (by omega), hC, fun _ _ => rfl, fun D hD => ⟨D, fun G g gr => ?_, hD, fun _ _ => rfl⟩⟩
        · refine b_X9_rain_55 g gr (by decide) _ _ _ _ _ _ _ _ ⟨fun c => absurd c hlt, fun _ => ⟨_, _, fn_hasCell hk (f + nI i), ?_⟩⟩
          rw [c71, e1, hasC_in hz hj, ck, cj, ce]
          refine ⟨fun _ => ⟨vp_in_nI hk (by omega), hs, vp_in_nI (by omega) (by omega), fun x ex => ⟨_, _, fn_X9_isRain _ _, ?_⟩⟩, fun e => absurd e (by decide)⟩
          rw [ex]
          exact ⟨fun c => absurd bad c, fun _ => ⟨rfl, rfl⟩⟩
        · refine b_X10_rain_58 g gr (by decide) _ _ _ _ _ _ _ ⟨fun c => absurd c hlt, fun _ => ⟨_, _, fn_bars_in (z := z) hk (by rw [← hD 105 (by decide)]; exact z2) hz hj e2, ?_⟩⟩
          rw [← hD 106 (by decide), if_pos bad]
          exact ⟨fun e => absurd e (neg20 i (by omega)), fun _ => ⟨rfl, rfl⟩⟩
      · obtain ⟨v, -, hv, ev⟩ := toNI (lo := 0) (hi := 100) (by omega) (by omega) bad
        obtain ⟨x, C1, P1, f1, h1, IP, h2, h2', hD1⟩ := two_step I hC (by omega) hv
        have S1 : Shv P1 k z l := by
          refine ⟨hz, hl, ?_, ?_, ?_, ?_, fun j hj => ?_⟩
          · rw [h2 71 (by decide), h1 71 (by decide), ← hC 71 (by decide)]; exact z1
          · rw [h2' 105 (by decide)]; exact z2
          · rw [h2 70 (by decide), h1 70 (by decide), ← hC 70 (by decide)]; exact z3
          · rw [h2' 104 (by decide)]; exact z4
          · rw [h2 _ (by omega), h1 _ (by omega), h2' 106 (by decide), ← hC _ (by omega)]; exact zc j hj
        obtain ⟨r, C', Q, k1, k2, k3, k4, k5⟩ := rain_loop hk hn m (i + 1) x C1 P1 (T + 1) (by omega) (by omega) IP h2 S1
        refine ⟨r, C', Q, fun G g gr => ?_, k2.mono (by omega), k3, fun q hq => by rw [k4 q hq, h1 q (by omega)], fun D hD => ?_⟩
        · refine b_X9_rain_55 g gr (by decide) _ _ _ _ _ _ _ _ ⟨fun c => absurd c hlt, fun _ => ⟨_, _, fn_hasCell hk (f + nI i), ?_⟩⟩
          rw [c71, e1, hasC_in hz hj, ck, cj, ce]
          refine ⟨fun _ => ⟨vp_in_nI hk (by omega), hs, vp_in_nI (by omega) (by omega), fun y ey => ⟨_, _, fn_X9_isRain _ _, ?_⟩⟩, fun e => absurd e (by decide)⟩
          rw [ey]
          refine ⟨fun _ => ⟨_, _, by rw [ev]; exact f1, fun y2 ey2 => ?_⟩, fun c => absurd c bad⟩
          rw [ey2, nI_1]
          exact k1 G g gr
        · obtain ⟨D1, g1, g2, g3⟩ := hD1 D hD
          obtain ⟨D', g4, g5, g6⟩ := k5 D1 g2
          refine ⟨D', fun G g gr => ?_, g5, fun q hq => by rw [g6 q hq, g3 q (Or.inl hq)]⟩
          refine b_X10_rain_58 g gr (by decide) _ _ _ _ _ _ _ ⟨fun c => absurd c hlt, fun _ => ⟨_, _, fn_bars_in (z := z) hk (by rw [← hD 105 (by decide)]; exact z2) hz hj e2, ?_⟩⟩
          rw [← hD 106 (by decide), if_neg bad, cell_ix e1, nI_clamp (show 60 * k + j < 2 ^ 31 by omega)]
          refine ⟨fun _ => ⟨vp_in_nI (by omega) (by omega), _, _, by rw [ev]; exact g1, fun y2 ey2 => ?_⟩, fun c => absurd (by decide) c⟩
          rw [ey2, nI_1]
          exact g4 G g gr
theorem shv_of {M : MM} {k : Nat} (V : VS M) (hk : k < 4) : (M.1 71 k = -1 ∧ M.1 104 k = -4) ∨ ∃ z l, Shv M k z l := by
  obtain ⟨h1, h2⟩ := V k hk
  rcases h1 with h1 | ⟨z, l, a1, a2, a3, a4, a5, a6⟩
  · exact Or.inl h1
  · exact Or.inr ⟨z, l, a1, a2, a3, a4, a5, a6, h2⟩
theorem nI_m1 : ∀ z, z ≤ 60 → ¬ (nI z : Int32) = -1 := by decide
theorem nI_m4 : ∀ z, z < 3 → ¬ (nI z : Int32) = -4 := by decide
theorem case_rain {M : MM} {T : Nat} (I : Inv M T) (hT : T + 24 ≤ 20000) (a b f c : Int32) : ∃ (r : Int32) (M1 M2 : MM), Fn 6 mX9_rain [.ref 0, .int a, .int b, .int f, .int c] M (some (.int r)) M1 ∧ Fn 5 mX10_rain [.ref 72, .int a, .int b, .int f, .int c] M1 (some (.int r)) M2 ∧ Inv M2 (T + 24) := by
  by_cases bad : wth a 0 3 = 0 ∨ wth b 0 2 = 0 ∨ wth c 0 24 = 0
  · refine ⟨-1, M, M, fn_intro ok_X9_rain (Nat.le_of_ble_eq_true rfl) fun G g gr => ?_, fn_intro ok_X10_rain (Nat.le_of_ble_eq_true rfl) fun G g gr => ?_, I.mono (by omega)⟩
    · refine b_X9_rain_0 g gr (by decide) a b f c M ⟨_, _, fn_X9_isSheet _ _, fun _ => ⟨rfl, rfl⟩, fun n1 => ⟨_, _, fn_X9_isLane _ _, fun _ => ⟨rfl, rfl⟩, fun n2 => ⟨_, _, fn_X9_within _ _ _ _, fun n3 => ?_, fun _ => ⟨rfl, rfl⟩⟩⟩⟩
      rcases bad with h | h | h
      · exact absurd h n1
      · exact absurd h n2
      · exact absurd h n3
    · refine b_X10_rain_0 g gr (by decide) a b f c M ⟨_, _, fn_X10_isSheet _ _ _, fun _ => ⟨rfl, rfl⟩, fun n1 => ⟨_, _, fin c 0 24 rfl rfl M, fun n3 => ?_, fun _ => ⟨rfl, rfl⟩⟩⟩
      rcases bad with h | h | h
      · exact absurd (by rw [if_pos h]) n1
      · exact absurd (by rw [h]; exact ite_self 0) n1
      · exact absurd h n3
  · have n1 : ¬ wth a 0 3 = 0 := fun h => bad (Or.inl h)
    have n2 : ¬ wth b 0 2 = 0 := fun h => bad (Or.inr (Or.inl h))
    have n3 : ¬ wth c 0 24 = 0 := fun h => bad (Or.inr (Or.inr h))
    have n12 : ¬ (if wth a 0 3 = 0 then 0 else wth b 0 2) = 0 := by rw [if_neg n1]; exact n2
    obtain ⟨k, -, hk3, rfl⟩ := toNI (lo := 0) (hi := 3) (by omega) (by omega) n1
    obtain ⟨l', -, hl', rfl⟩ := toNI (lo := 0) (hi := 2) (by omega) (by omega) n2
    obtain ⟨n, -, hn, rfl⟩ := toNI (lo := 0) (hi := 24) (by omega) (by omega) n3
    have hk : k < 4 := by omega
    have ck : (nI k).toNatClampNeg = k := nI_clamp (by omega)
    obtain ⟨nd, nw, np, ns, nwd, h, bb, i1, i2, i3, i4, i5, i6, i7⟩ := id I
    rcases shv_of i5 hk with ⟨e1, e2⟩ | ⟨z, l, SV⟩
    · refine ⟨-11, M, M, fn_intro ok_X9_rain (Nat.le_of_ble_eq_true rfl) fun G g gr => ?_, fn_intro ok_X10_rain (Nat.le_of_ble_eq_true rfl) fun G g gr => ?_, I.mono (by omega)⟩
      · refine b_X9_rain_0 g gr (by decide) _ _ f _ M ⟨_, _, fn_X9_isSheet _ _, fun e => absurd e n1, fun _ => ⟨_, _, fn_X9_isLane _ _, fun e => absurd e n2, fun _ => ⟨_, _, fn_X9_within _ _ _ _, fun _ => ⟨_, _, fn_faultAs hk _, ?_⟩, fun e => absurd e n3⟩⟩⟩
        unfold fltV
        rw [if_pos e1]
        exact ⟨fun e => absurd e (by decide), fun _ => ⟨rfl, rfl⟩⟩
      · refine b_X10_rain_0 g gr (by decide) _ _ f _ M ⟨_, _, fn_X10_isSheet _ _ _, fun e => absurd e n12, fun _ => ⟨_, _, fin _ 0 24 rfl rfl M, fun _ => ⟨vp_in_nI hk (by omega), ?_⟩, fun e => absurd e n3⟩⟩
        rw [ck, e2]
        exact ⟨fun e => absurd e.symm (nI_m4 l' (by omega)), fun _ => ⟨rfl, rfl⟩⟩
    · obtain ⟨q1, q2, q3, q4, q5, q6, q7⟩ := id SV
      by_cases el : l = l'
      · subst el
        obtain ⟨r, C', Q, k1, k2, k3, k4, k5⟩ := rain_loop (z := z) (f := f) hk hn n 0 0 M M T (by omega) (by omega) I (fun _ _ => rfl) SV
        obtain ⟨D', g1, g2, g3⟩ := k5 C' (fun q hq => (k4 q hq).symm)
        refine ⟨r, C', D', fn_intro ok_X9_rain (Nat.le_of_ble_eq_true rfl) fun G g gr => ?_, fn_intro ok_X10_rain (Nat.le_of_ble_eq_true rfl) fun G g gr => ?_, (k2.mono (by omega)).c1 ?_⟩
        · refine b_X9_rain_0 g gr (by decide) _ _ f _ M ⟨_, _, fn_X9_isSheet _ _, fun e => absurd e n1, fun _ => ⟨_, _, fn_X9_isLane _ _, fun e => absurd e n2, fun _ => ⟨_, _, fn_X9_within _ _ _ _, fun _ => ⟨_, _, fn_faultAs hk _, ?_⟩, fun e => absurd e n3⟩⟩⟩
          unfold fltV
          rw [q3, if_neg (nI_m1 z q1), if_pos q5]
          exact ⟨fun _ => k1 G g gr, fun e => absurd rfl e⟩
        · refine b_X10_rain_0 g gr (by decide) _ _ f _ _ ⟨_, _, fn_X10_isSheet _ _ _, fun e => absurd e n12, fun _ => ⟨_, _, fin _ 0 24 rfl rfl _, fun _ => ⟨vp_in_nI hk (by omega), ?_⟩, fun e => absurd e n3⟩⟩
          rw [ck, k4 104 (by decide), q6]
          exact ⟨fun _ => g1 G g gr, fun e => absurd rfl e⟩
        · funext q
          by_cases hq : q < 72
          · rw [k3 q hq, g3 q hq]
          · rw [g2 q (by omega)]
      · have ne := nI_ne (a := l) (b := l') (by omega) (by omega) el
        refine ⟨-13, M, M, fn_intro ok_X9_rain (Nat.le_of_ble_eq_true rfl) fun G g gr => ?_, fn_intro ok_X10_rain (Nat.le_of_ble_eq_true rfl) fun G g gr => ?_, I.mono (by omega)⟩
        · refine b_X9_rain_0 g gr (by decide) _ _ f _ M ⟨_, _, fn_X9_isSheet _ _, fun e => absurd e n1, fun _ => ⟨_, _, fn_X9_isLane _ _, fun e => absurd e n2, fun _ => ⟨_, _, fn_X9_within _ _ _ _, fun _ => ⟨_, _, fn_faultAs hk _, ?_⟩, fun e => absurd e n3⟩⟩⟩
          unfold fltV
          rw [q3, if_neg (nI_m1 z q1), if_neg (by rw [q5]; exact ne)]
          exact ⟨fun e => absurd e (by decide), fun _ => ⟨rfl, rfl⟩⟩
        · refine b_X10_rain_0 g gr (by decide) _ _ f _ M ⟨_, _, fn_X10_isSheet _ _ _, fun e => absurd e n12, fun _ => ⟨_, _, fin _ 0 24 rfl rfl M, fun _ => ⟨vp_in_nI hk (by omega), ?_⟩, fun e => absurd e n3⟩⟩
          rw [ck, q6, if_neg (nI_m4 l q2)]
          exact ⟨fun e => absurd e ne, fun _ => ⟨rfl, rfl⟩⟩

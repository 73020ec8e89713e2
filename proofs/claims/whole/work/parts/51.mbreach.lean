/-! the model: breachOf -/
theorem b4_bit : ∀ b, b < 16 → ∀ j, j < 4 → (b / 4 * 4).testBit j = (decide (2 ≤ j) && b.testBit j) := by decide +kernel
theorem dg_bit : ∀ d, d < 4 → ∀ j, j < 4 → 2 ≤ j → d.testBit j = false := by decide +kernel
theorem Wat_hi {X : PX} (V : VX X) {x w : Nat} : ∀ k d, xd X ≤ d → Wat X x w k d = xW X d
  | 0, _, _ => rfl
  | k + 1, d, hd => by
    unfold Wat
    rw [(mvS_low V.1 (W := Wat X x w k) (W' := Wat X x w k) (fun _ _ => rfl)).2 d hd]
    exact Wat_hi V k d hd
section mbreach
variable {X : PX}
theorem oB_bit (V : VX X) {x k j : Nat} (hj : j < xp X) : (oB X x k).testBit j = if j < 2 then tl x k j else ((xb X).testBit j && !pz (xS X) j (xh X + k)) := by
  have h4 := V.1.p4
  have hb := xb16 V
  unfold oB
  rw [Nat.testBit_or, awk_bit _ _ (by omega) _ h4 j (by omega), b4_bit _ hb j (by omega)]
  by_cases c : j < 2
  · rw [if_pos c]
    have : decide (2 ≤ j) = false := by simp; omega
    rw [this]
    unfold tl
    simp
  · rw [if_neg c, dg_bit _ (dg_lt x k) j (by omega) (by omega)]
    have e1 : decide (2 ≤ j) = true := by simp; omega
    have e2 : decide (j < xp X) = true := by simp; exact hj
    rw [e1, e2]
    simp
theorem oB_lt (V : VX X) {x k : Nat} (h : dg x k < 2 ^ min (xp X) 2) : oB X x k < 2 ^ xp X ∧ oB X x k < 16 := by
  have h4 := V.1.p4
  have h1 : dg x k < 2 ^ xp X := Nat.lt_of_lt_of_le h (Nat.pow_le_pow_right (by omega) (Nat.min_le_left _ _))
  have h2 : awk (xS X) (xh X + k) (xb X / 4 * 4) (xp X) < 2 ^ xp X := Nat.lt_of_le_of_lt (awk_le _ _ _ _) (Nat.lt_of_le_of_lt (Nat.div_mul_le_self _ _) V.2.1)
  have h3 : oB X x k < 2 ^ xp X := Nat.or_lt_two_pow h1 h2
  exact ⟨h3, Nat.lt_of_lt_of_le h3 (Nat.pow_le_pow_right (n := 2) (by omega) h4)⟩
theorem or_bit : ∀ b, b < 16 → ∀ j, j < 4 → b.testBit j = true → (nI (b % 2 ^ j) ||| (1 <<< (nI j &&& 31))) = nI (b % 2 ^ (j + 1)) := fun b hb j hj h => (low_on b hb j hj h).1
def MR (M M1 N : MM) : Prop := (∀ j, j ≠ 75 ∧ j ≠ 78 ∧ j ≠ 79 ∧ j ≠ 96 ∧ j ≠ 97 ∧ j ≠ 98 ∧ ¬ (100 ≤ j ∧ j ≤ 103) → N.1 j = M.1 j) ∧ N.2 = M.2 ∧ (∀ j, 100 ≤ j → j ≤ 103 → N.1 j = M1.1 j) ∧ (∀ d, 6 ≤ d → N.1 78 d = M.1 78 d ∧ N.1 79 d = M.1 79 d) ∧ (∀ d, 8 ≤ d → N.1 96 d = M.1 96 d) ∧ (∀ d, 4 ≤ d → N.1 97 d = M.1 97 d ∧ N.1 98 d = M.1 98 d)
theorem fn_X10_breachOf {M : MM} (V : VX X) (E : EM X M) {x n : Nat} (hx : x < 4096) (hn : n ≤ 6) (hP : isP X n x) : ∃ M', Fn 3 mX10_breachOf [.ref 72, .int (nI n), .int (nI x)] M (some (.long (lN (bT X x n)))) M' ∧ (∀ j, ¬ (100 ≤ j ∧ j ≤ 103) → M'.1 j = M.1 j) ∧ M'.2 = M.2 := by
  have h6 := V.1.d6
  have h8 := V.1.w8
  have h4 := V.1.p4
  have h4s := V.1.s4
  have hh := V.2.2.1
  have ht := V.2.2.2.1
  obtain ⟨nwd, t1, t2, t3, t4, t5⟩ := E.2.2.2.2.2.1
  obtain ⟨Ma, fa, a1, a2, a3⟩ := fn_keeps (M := M)
  obtain ⟨Mb, fb, b1, b2, b3⟩ := fn_keepsPassed (M := Ma)
  have MRb : MR M Mb Mb := by
    refine ⟨fun j hj => ?_, by rw [b2, a2], fun _ _ _ => rfl, fun d _ => ⟨?_, ?_⟩, fun d _ => ?_, fun d _ => ⟨?_, ?_⟩⟩
    · rw [b1 j (by omega), a1 j (by omega)]
    · rw [b1 78 (by omega), a1 78 (by omega)]
    · rw [b1 79 (by omega), a1 79 (by omega)]
    · rw [b1 96 (by omega), a1 96 (by omega)]
    · rw [b1 97 (by omega), a1 97 (by omega)]
    · rw [b1 98 (by omega), a1 98 (by omega)]
  have b75 : Mb.1 75 = M.1 75 := by rw [b1 75 (by omega), a1 75 (by omega)]
  have b78 : Mb.1 78 = M.1 78 := by rw [b1 78 (by omega), a1 78 (by omega)]
  have b79 : Mb.1 79 = M.1 79 := by rw [b1 79 (by omega), a1 79 (by omega)]
  have keep : ∀ i, i < 6 → Mb.1 100 i = M.1 75 i ∧ Mb.1 101 i = M.1 78 i ∧ Mb.1 102 i = M.1 79 i := fun i hi => by
    rw [b1 100 (by omega), b1 101 (by omega), b1 102 (by omega)]
    exact a3 i hi
  have st1 : ∀ w, w ≤ xt X → ∃ N : MM, (∀ G, Good G mX10_breachOf 3 → ∀ r C, GoodR G r C → At_X10_breachOf_13 G (nI n) (nI x) (lN (sumN (fun v => sumN (fun k => bN (xS X) (xd X) (Wat X x v (k + 1))) n) w)) (nI w) N → At_X10_breachOf_13 G (nI n) (nI x) 0 0 Mb) ∧ MR M Mb N ∧ N.1 75 = M.1 75 ∧ N.1 78 = M.1 78 ∧ N.1 79 = M.1 79 := by
    intro w
    induction w with
    | zero => exact fun _ => ⟨Mb, fun G g r C gr h => h, MRb, b75, b78, b79⟩
    | succ w ihw =>
      intro hw
      obtain ⟨N0, k1, k2, k3, k4, k5⟩ := ihw (by omega)
      generalize hA : sumN (fun v => sumN (fun k => bN (xS X) (xd X) (Wat X x v (k + 1))) n) w = A at k1
      have st2 : ∀ k, k ≤ n → ∃ N : MM, (∀ G, Good G mX10_breachOf 3 → ∀ r C, GoodR G r C → At_X10_breachOf_30 G (nI n) (nI x) (lN (A + sumN (fun k => bN (xS X) (xd X) (Wat X x w (k + 1))) k)) (nI w) (nI k) N → At_X10_breachOf_30 G (nI n) (nI x) (lN A) (nI w) 0 N0) ∧ MR M Mb N ∧ N.1 75 = Wat X x w k := by
        intro k
        induction k with
        | zero => exact fun _ => ⟨N0, fun G g r C gr h => h, k2, by rw [k3]; exact E.2.2.2.2.2.2.2.2⟩
        | succ k ihk =>
          intro hk
          obtain ⟨N, l1, l2, l3⟩ := ihk (by omega)
          generalize hA2 : A + sumN (fun k => bN (xS X) (xd X) (Wat X x w (k + 1))) k = A2 at l1
          have hk6 : k < 6 := by omega
          obtain ⟨r1, r2, r3, r4, r5, r6⟩ := l2
          have n72 : N.1 72 = M.1 72 := r1 72 (by omega)
          have rN : ∀ q ∈ rowL, xS X q = mS N q := fun q hq => by
            have := mp_le q hq
            rw [E.1 q hq]
            unfold mS
            exact (r1 _ (by omega)).symm
          have VN : VLd (mS N) (xd X) (xw X) (xp X) (xs X) := V.1.congr rN
          obtain ⟨ob1, ob2⟩ := oB_lt V (hP k (by omega))
          have e27 : N.1 72 27 = nI (xh X) := by rw [n72]; exact E.2.2.2.2.2.2.1
          have e13 : N.1 72 13 = nI (xp X) := by rw [n72]; exact E.2.2.2.1
          have hfl := fn_flows (M := N) (i := (xh X + k) % 24) (b := oB X x k) (rain := xR X w k) VN (by rw [n72]; exact E.2.1) (by rw [n72]; exact E.2.2.1) e13 (by rw [n72]; exact E.2.2.2.2.1) (by omega) ob2
          rw [← mvS_congr rN, l3] at hfl
          generalize hR : flR (mS N) (xd X) (xR X w k) (N.1 78) = R9 at hfl
          generalize hO : oS (mS N) (sF (mS N) ((xh X + k) % 24) (mvP (mS N) (xd X) (xw X) (xp X) (xR X w k) (oB X x k) (Wat X x w k))) (oP (mS N) (pF (mS N) (oB X x k) (mvW (mS N) (xd X) (xw X) (xR X w k) (Wat X x w k))) (N.1 79) (xp X)) (xs X) = O9 at hfl
          generalize hF1 : pre (xw X) (wF (mS N) (mvR (mS N) (xd X) (xR X w k) (Wat X x w k))) (N.1 96) = F1 at hfl
          generalize hF2 : pre (xp X) (pF (mS N) (oB X x k) (mvW (mS N) (xd X) (xw X) (xR X w k) (Wat X x w k))) (N.1 97) = F2 at hfl
          generalize hF3 : pre (xs X) (sF (mS N) ((xh X + k) % 24) (mvP (mS N) (xd X) (xw X) (xp X) (xR X w k) (oB X x k) (Wat X x w k))) (N.1 98) = F3 at hfl
          have hW9 : mvS (xS X) (xd X) (xw X) (xp X) (xs X) (xR X w k) ((xh X + k) % 24) (oB X x k) (Wat X x w k) = Wat X x w (k + 1) := rfl
          rw [hW9] at hfl
          generalize hN4 : N6 N (Wat X x w (k + 1)) R9 O9 F1 F2 F3 = N4m at hfl
          have o4 : ∀ j, j ≠ 75 ∧ j ≠ 78 ∧ j ≠ 79 ∧ j ≠ 96 ∧ j ≠ 97 ∧ j ≠ 98 → N4m.1 j = N.1 j := fun j hj => by rw [← hN4]; exact N6_off _ _ _ _ _ _ _ hj
          have w4 : N4m.1 75 = Wat X x w (k + 1) := by rw [← hN4]; exact N6_W
          have MR4 : MR M Mb N4m := by
            refine ⟨fun j hj => ?_, ?_, fun j q1 q2 => ?_, fun d hd => ⟨?_, ?_⟩, fun d hd => ?_, fun d hd => ⟨?_, ?_⟩⟩
            · rw [o4 j (by omega)]; exact r1 j hj
            · rw [← hN4]; exact r2
            · rw [o4 j (by omega)]; exact r3 j q1 q2
            · rw [← hN4, N6_R, ← hR]
              unfold flR pre
              rw [if_neg (by omega)]
              exact (r4 d hd).1
            · rw [← hN4, N6_O, ← hO, oS_hi VN _ (Nat.le_refl _) d (by omega), oP_hi VN _ (Nat.le_refl _) d (by omega)]
              exact (r4 d hd).2
            · rw [← hN4, N6_1, ← hF1]
              unfold pre
              rw [if_neg (by omega)]
              exact r5 d hd
            · rw [← hN4, N6_2, ← hF2]
              unfold pre
              rw [if_neg (by omega)]
              exact (r6 d hd).1
            · rw [← hN4, N6_3, ← hF3]
              unfold pre
              rw [if_neg (by omega)]
              exact (r6 d hd).2
          have r44 : ∀ q ∈ rowL, xS X q = mS N4m q := fun q hq => by
            have := mp_le q hq
            rw [rN q hq]
            unfold mS
            exact (o4 _ (by omega)).symm
          have wb4 := wat_wb V (x := x) (w := w) (by omega) (k + 1) (by omega)
          refine ⟨N4m, fun G g r C gr h => l1 G g r C gr ?_, MR4, w4⟩
          -- the breaches behind the hour
          have br : ∀ (m d : Nat), d + m = xd X → At_X10_breachOf_171 G (nI n) (nI x) (lN (A2 + sumN (fun d => (brc (xS X) (Wat X x w (k + 1)) d).toInt.toNat) d)) (nI w) (nI k) (nI (oB X x k)) (nI d) N4m := by
            intro m
            induction m with
            | zero =>
              intro d hd
              have hdd : d = xd X := by omega
              subst hdd
              refine b_X10_breachOf_171 g gr (by decide) _ _ _ _ _ _ _ N4m ⟨fun _ y ey => ?_, fun c => absurd (by rw [o4 72 (by omega), n72, E.2.1]; exact nI_le (by omega) (by omega)) c⟩
              rw [ey, nI_1]
              rw [← hA2, Nat.add_assoc] at *
              exact h
            | succ m ihm =>
              intro d hd
              obtain ⟨Ad, q1, q2, q3⟩ := VN.A (show d < xd X by omega)
              have hbr := fn_X10_breach (M := N4m) (d := d) (A := Ad) (by omega) q1 q2 (by rw [o4 73 (by omega)]; exact q3)
              rw [w4, ← brc_congr r44] at hbr
              refine b_X10_breachOf_171 g gr (by decide) _ _ _ _ _ _ _ N4m ⟨fun c => ?_, fun _ => ⟨_, _, hbr, fun y ey z ez => ?_⟩⟩
              · rw [o4 72 (by omega), n72, E.2.1, nI_leI (by omega) (by omega)] at c; omega
              · rw [ey, ez, nI_1, nn_l (brc_nn V.1 wb4 (by omega) (show d < xd X by omega)), lN_add, Nat.add_assoc]
                exact ihm (d + 1) (by omega)
          have br0 := br (xd X) 0 (by omega)
          -- the bits
          have bits : ∀ (m p : Nat), p + m = xp X → At_X10_breachOf_42 G (nI n) (nI x) (lN A2) (nI w) (nI k) (nI (oB X x k % 2 ^ p)) (nI p) N := by
            intro m
            induction m with
            | zero =>
              intro p hp
              have hpp : p = xp X := by omega
              subst hpp
              rw [Nat.mod_eq_of_lt ob1]
              refine b_X10_breachOf_42 g gr (by decide) _ _ _ _ _ _ _ N ⟨fun _ => ?_, fun c => absurd (by rw [e13]; exact nI_le (by omega) (by omega)) c⟩
              rw [e27, nI_add, rem24 (by omega), n72, t2]
              refine ⟨fun c => ⟨by decide, ?_⟩, fun c => ⟨?_, by decide, ?_⟩⟩
              · rw [nI_leI (by omega) (by omega)] at c
                have w0 : w = 0 ∧ nwd = 0 := by omega
                refine ⟨N4m, ?_, br0⟩
                have e0 : xR X w k = 0 := by rw [w0.1]; exact t5 w0.2 k hk6
                rw [e0] at hfl
                exact hfl
              · rw [show (6 : Int32) = nI 6 from rfl, pk_mul, nI_add]
                rw [nI_leI (by omega) (by omega)] at c
                exact vp_in_nI (by omega) (by omega)
              · rw [nI_leI (by omega) (by omega)] at c
                rw [show (6 : Int32) = nI 6 from rfl, pk_mul, nI_add, nI_clamp (show 6 * w + k < 2 ^ 31 by omega), r1 99 (by omega), t4 w (by omega) k hk6]
                exact ⟨N4m, hfl, br0⟩
            | succ m ihm =>
              intro p hp
              have hp4 : p < 4 := by omega
              have nx := ihm (p + 1) (by omega)
              have cp : (nI p).toNatClampNeg = p := nI_clamp (by omega)
              have obt := oB_bit V (x := x) (k := k) (show p < xp X by omega)
              have e89 : N.1 89 p = bitI (xb X) p := by rw [r1 89 (by omega)]; exact E.2.2.2.2.2.2.2.1 p hp4
              have off : (oB X x k).testBit p = false → ∀ y : Int32, y = (nI (oB X x k % 2 ^ p) ||| 0) → ∀ z : Int32, z = nI p + 1 → At_X10_breachOf_42 G (nI n) (nI x) (lN A2) (nI w) (nI k) y z N := fun hq y ey z ez => by
                rw [ey, ez, or_0, nI_1]
                rw [low_off _ ob2 p hp4 hq] at nx
                exact nx
              have on : (oB X x k).testBit p = true → ∀ y : Int32, y = (nI (oB X x k % 2 ^ p) ||| (1 <<< (nI p &&& 31))) → ∀ z : Int32, z = nI p + 1 → At_X10_breachOf_42 G (nI n) (nI x) (lN A2) (nI w) (nI k) y z N := fun hq y ey z ez => by
                rw [ey, ez, or_bit _ ob2 p hp4 hq, nI_1]
                exact nx
              refine b_X10_breachOf_42 g gr (by decide) _ _ _ _ _ _ _ N ⟨fun c => ?_, fun _ => ⟨fun c => ⟨vp_in_nI (by omega) (by omega), ?_⟩, fun c => ?_⟩⟩
              · rw [e13, nI_leI (by omega) (by omega)] at c; omega
              · rw [show (2 : Int32) = nI 2 from rfl, nI_leI (by omega) (by omega)] at c
                rw [if_neg (by omega)] at obt
                rw [cp, e89, e27, nI_add]
                unfold bitI
                cases hb : (xb X).testBit p with
                | false =>
                  rw [hb, Bool.false_and] at obt
                  exact ⟨fun _ => ⟨fun _ => off obt, fun c9 => absurd rfl c9⟩, fun c9 => absurd rfl c9⟩
                | true =>
                  rw [hb, Bool.true_and] at obt
                  refine ⟨fun c9 => absurd c9 (by decide), fun _ => ⟨_, _, fn_isPaused hp4 (by omega), fun y ey => ?_⟩⟩
                  rw [← pz_congr rN] at ey
                  cases hz : pz (xS X) p (xh X + k) with
                  | true =>
                    rw [hz] at obt ey
                    have ey' : y = 0 := ey
                    rw [ey']
                    exact ⟨fun _ => off obt, fun c9 => absurd rfl c9⟩
                  | false =>
                    rw [hz] at obt ey
                    have ey' : y = 1 := ey
                    rw [ey']
                    exact ⟨fun c9 => absurd c9 (by decide), fun _ => on obt⟩
              · rw [show (2 : Int32) = nI 2 from rfl, nI_leI (by omega) (by omega)] at c
                rw [if_pos (by omega)] at obt
                refine ⟨_, _, fn_isIn hx hk6 (by omega), ?_⟩
                cases htl : tl x k p with
                | false =>
                  rw [htl] at obt
                  exact ⟨fun _ => off obt, fun c9 => absurd rfl c9⟩
                | true =>
                  rw [htl] at obt
                  exact ⟨fun c9 => absurd c9 (by decide), fun _ => on obt⟩
          refine b_X10_breachOf_30 g gr (by decide) _ _ _ _ _ N ⟨fun c => ?_, fun _ => ?_⟩
          · rw [nI_leI (by omega) (by omega)] at c; omega
          · have := bits (xp X) 0 (by omega)
            rw [Nat.pow_zero, Nat.mod_one] at this
            exact this
      obtain ⟨N, l1, l2, l3⟩ := st2 n (Nat.le_refl _)
      obtain ⟨Ng, fg, g1, g2, g3, g4, g5⟩ := fn_gives (M := N)
      obtain ⟨r1, r2, r3, r4, r5, r6⟩ := l2
      have g75 : Ng.1 75 = M.1 75 := by
        rw [g3]
        funext i
        unfold pre
        by_cases q : i < 6
        · rw [if_pos q, r3 100 (by omega) (by omega)]; exact (keep i q).1
        · rw [if_neg q, l3, Wat_hi V n i (by omega), E.2.2.2.2.2.2.2.2]
      have g78 : Ng.1 78 = M.1 78 := by
        rw [g4]
        funext i
        unfold pre
        by_cases q : i < 6
        · rw [if_pos q, r3 101 (by omega) (by omega)]; exact (keep i q).2.1
        · rw [if_neg q]; exact (r4 i (by omega)).1
      have g79 : Ng.1 79 = M.1 79 := by
        rw [g5]
        funext i
        unfold pre
        by_cases q : i < 6
        · rw [if_pos q, r3 102 (by omega) (by omega)]; exact (keep i q).2.2
        · rw [if_neg q]; exact (r4 i (by omega)).2
      refine ⟨Ng, fun G g r C gr h => k1 G g r C gr ?_, ⟨fun j hj => ?_, by rw [g2, r2], fun j q1 q2 => ?_, fun d hd => ⟨by rw [g78], by rw [g79]⟩, fun d hd => ?_, fun d hd => ⟨?_, ?_⟩⟩, g75, g78, g79⟩
      · have into : At_X10_breachOf_30 G (nI n) (nI x) (lN A) (nI w) 0 N0 := by
          refine l1 G g r C gr ?_
          refine b_X10_breachOf_30 g gr (by decide) _ _ _ _ _ N ⟨fun _ => ⟨Ng, fg, fun y ey => ?_⟩, fun c => absurd (nI_le (by omega) (by omega)) c⟩
          rw [ey, nI_1]
          have e9 : sumN (fun v => sumN (fun k => bN (xS X) (xd X) (Wat X x v (k + 1))) n) (w + 1) = A + sumN (fun k => bN (xS X) (xd X) (Wat X x w (k + 1))) n := by rw [← hA]; rfl
          rw [e9] at h
          exact h
        have e32 : N0.1 72 32 = nI nwd := by rw [k2.1 72 (by omega)]; exact t2
        refine b_X10_breachOf_13 g gr (by decide) _ _ _ _ N0 ⟨fun _ => into, fun c => ⟨fun c2 => ?_, fun _ => into⟩⟩
        exfalso
        rw [e32, nI_ltI (by omega) (by omega)] at c
        have : w = 0 := by omega
        subst this
        exact c2 rfl
      · rw [g1 j (by omega) (by omega) (by omega)]; exact r1 j hj
      · rw [g1 j (by omega) (by omega) (by omega)]; exact r3 j q1 q2
      · rw [g1 96 (by omega) (by omega) (by omega)]; exact r5 d hd
      · rw [g1 97 (by omega) (by omega) (by omega)]; exact (r6 d hd).1
      · rw [g1 98 (by omega) (by omega) (by omega)]; exact (r6 d hd).2
  obtain ⟨N, k1, k2, k3, k4, k5⟩ := st1 (xt X) (Nat.le_refl _)
  obtain ⟨r1, r2, r3, r4, r5, r6⟩ := k2
  obtain ⟨Nz, fz, z1, z2, z3, z4, z5⟩ := fn_givesPassed (M := N)
  have eT : sumN (fun v => sumN (fun k => bN (xS X) (xd X) (Wat X x v (k + 1))) n) (xt X) = bT X x n := (sumN_swap (fun k w => bN (xS X) (xd X) (Wat X x w (k + 1))) (xt X) n).symm
  rw [eT] at k1
  refine ⟨Nz, fn_intro ok_X10_breachOf (Nat.le_of_ble_eq_true rfl) fun G g gr => b_X10_breachOf_0 g gr (by decide) _ _ M ⟨Ma, fa, Mb, fb, k1 G g _ _ gr ?_⟩, fun j hj => ?_, by rw [z2, r2]⟩
  · have e32 : N.1 72 32 = nI nwd := by rw [r1 72 (by omega)]; exact t2
    refine b_X10_breachOf_13 g gr (by decide) _ _ _ _ N ⟨fun c => ?_, fun _ => ⟨fun _ => ⟨Nz, fz, rfl, rfl⟩, fun c => ?_⟩⟩
    · rw [e32, nI_ltI (by omega) (by omega)] at c; omega
    · exfalso
      have := (nI_eq (b := 0) (show xt X < 2 ^ 31 by omega) (by omega)).mp c
      omega
  · by_cases c96 : j = 96
    · subst c96
      funext i
      rw [z3 i]
      by_cases q : i < 8
      · rw [if_pos q, r3 103 (by omega) (by omega)]
        by_cases q2 : i < 4
        · rw [(b3 i q2).1, a1 96 (by omega)]
        · have := (b3 (i - 4) (by omega)).2.1
          rw [show 4 + (i - 4) = i by omega] at this
          rw [this, a1 96 (by omega)]
      · rw [if_neg q]; exact r5 i (by omega)
    by_cases c97 : j = 97
    · subst c97
      funext i
      rw [z4 i]
      by_cases q : i < 4
      · rw [if_pos q, r3 103 (by omega) (by omega), (b3 i q).2.2.1, a1 97 (by omega)]
      · rw [if_neg q]; exact (r6 i (by omega)).1
    by_cases c98 : j = 98
    · subst c98
      funext i
      rw [z5 i]
      by_cases q : i < 4
      · rw [if_pos q, r3 103 (by omega) (by omega), (b3 i q).2.2.2, a1 98 (by omega)]
      · rw [if_neg q]; exact (r6 i (by omega)).2
    rw [z1 j c96 c97 c98]
    by_cases c75 : j = 75
    · subst c75; exact k3
    by_cases c78 : j = 78
    · subst c78; exact k4
    by_cases c79 : j = 79
    · subst c79; exact k5
    exact r1 j (by omega)
end mbreach

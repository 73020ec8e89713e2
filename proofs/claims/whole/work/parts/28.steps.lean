/-! the model: a step -/
def bitI (b p : Nat) : Int32 := if b.testBit p then 1 else 0
theorem nar_bit (b p : Nat) : vp_nar .boolean (bitI b p) = bitI b p := by
  unfold bitI
  cases b.testBit p <;> rfl
theorem low_on : ∀ b, b < 16 → ∀ j, j < 4 → b.testBit j = true → (nI (b % 2 ^ j) ||| (1 <<< (nI j &&& 31))) = nI (b % 2 ^ (j + 1)) ∧ pcn (b % 2 ^ (j + 1)) = pcn (b % 2 ^ j) + 1 := by decide +kernel
theorem low_off : ∀ b, b < 16 → ∀ j, j < 4 → b.testBit j = false → b % 2 ^ (j + 1) = b % 2 ^ j := by decide +kernel
theorem ring_1 (c p : Int32) (n : Nat) : c + p * nI n + p = c + p * nI (n + 1) := by
  rw [nI_succ, Int32.mul_add, Int32.mul_one, Int32.add_assoc]
theorem upd_upd (f : Nat → Int32) (k : Nat) (x y : Int32) : upd (upd f k x) k y = upd f k y := by
  funext j
  by_cases h : j = k
  · subst h; simp [upd]
  · simp [upd, h]
theorem or_0 (x : Int32) : x ||| 0 = x := by simp
theorem awk_le (S : SS) (h b : Nat) : ∀ k, awk S h b k ≤ b
  | 0 => Nat.le_refl _
  | k + 1 => by
    have ih := awk_le S h b k
    unfold awk
    split
    · exact Nat.le_trans Nat.and_le_left ih
    · exact ih
def stpM (M : MM) (nd nw np ns h b : Nat) (rain : Int32) : MM :=
  ui (N6 (ui (uc M 89 (pre np (bitI b) (M.1 89))) 72 28 (M.1 72 28 + M.1 95 (h % 24) * nI (pcn b))) (mvS (mS M) nd nw np ns rain (h % 24) b (M.1 75)) (flR (mS M) nd rain (M.1 78)) (oS (mS M) (sF (mS M) (h % 24) (mvP (mS M) nd nw np rain b (M.1 75))) (oP (mS M) (pF (mS M) b (mvW (mS M) nd nw rain (M.1 75))) (M.1 79) np) ns)
      (pre nw (wF (mS M) (mvR (mS M) nd rain (M.1 75))) (M.1 96)) (pre np (pF (mS M) b (mvW (mS M) nd nw rain (M.1 75))) (M.1 97)) (pre ns (sF (mS M) (h % 24) (mvP (mS M) nd nw np rain b (M.1 75))) (M.1 98))) 72 27 (nI (h + 1))
theorem mS_uc {M : MM} {k : Nat} {f : Nat → Int32} (hk : k = 89 ∨ k = 72 ∨ k = 90 ∨ k = 75 ∨ k = 78 ∨ k = 79 ∨ k < 72 ∨ 96 ≤ k) : ∀ a ∈ rowL, mS M a = mS (uc M k f) a := fun a ha => by
  have := mp_le a ha
  unfold mS
  rw [uc_ne (by omega)]
theorem fn_steps {M : MM} {nd nw np ns h b : Nat} {rain : Int32} (V : VLd (mS M) nd nw np ns) (z0 : M.1 72 0 = nI nd) (z1 : M.1 72 8 = nI nw) (z2 : M.1 72 13 = nI np) (z3 : M.1 72 21 = nI ns) (hh : h < 2 ^ 30) (zh : M.1 72 27 = nI h) (hb : b < 2 ^ np) (zb : ∀ p, p < 4 → M.1 89 p = bitI b p) :
    Fn 4 mX10_steps [.ref 72, .int rain] M (some (.int (alm (mS M) nd (mvS (mS M) nd nw np ns rain (h % 24) (awk (mS M) h b np) (M.1 75))))) (stpM M nd nw np ns h (awk (mS M) h b np) rain) := fn_intro ok_X10_steps (Nat.le_of_ble_eq_true rfl) fun G g gr => by
  have h6 := V.d6
  have hp := V.p4
  have hb16 : b < 16 := Nat.lt_of_lt_of_le hb (by
    have : 2 ^ np ≤ 2 ^ 4 := Nat.pow_le_pow_right (by omega) hp
    omega)
  have ha16 := awk_lt (mS M) h hb16 np hp
  have hale := awk_le (mS M) h b np
  have habit := awk_bit (mS M) h hb16 np hp
  generalize hb' : awk (mS M) h b np = b' at gr ha16 hale habit
  refine b_X10_steps_0 g gr (by decide) rain M ?_
  have hrem := rem24 (h := h) (by omega)
  have loop : ∀ (k j : Nat), j + k = np → At_X10_steps_4 G rain (nI (b' % 2 ^ j)) (nI j) (uc (uc M 89 (pre j (bitI b') (M.1 89))) 72 (upd (M.1 72) 28 (M.1 72 28 + M.1 95 (h % 24) * nI (pcn (b' % 2 ^ j))))) := by
    intro k
    induction k with
    | zero =>
      intro j hj
      have hjn : j = np := by omega
      subst hjn
      refine b_X10_steps_4 g gr (by decide) _ _ _ _ ⟨fun _ => ⟨by decide, ?_⟩, fun c => ?_⟩
      · have hlow : b' % 2 ^ j = b' := Nat.mod_eq_of_lt (Nat.lt_of_le_of_lt hale hb)
        rw [hlow]
        generalize hN : uc (uc M 89 (pre j (bitI b') (M.1 89))) 72 (upd (M.1 72) 28 (M.1 72 28 + M.1 95 (h % 24) * nI (pcn b'))) = N
        have rN : ∀ a ∈ rowL, mS M a = mS N a := fun a ha => by
          rw [← hN, ← mS_uc (by omega) a ha, ← mS_uc (by omega) a ha]
        have n72 : ∀ i : Nat, i ≠ 28 → N.1 72 i = M.1 72 i := fun i hi => by rw [← hN, uc_at, upd_ne hi]
        have nof : ∀ a : Nat, a ≠ 72 → a ≠ 89 → N.1 a = M.1 a := fun a h1 h2 => by rw [← hN, uc_ne h1, uc_ne h2]
        have hfl := fn_flows (M := N) (i := h % 24) (b := b') (rain := rain) (V.congr rN) (by rw [n72 0 (by decide)]; exact z0) (by rw [n72 8 (by decide)]; exact z1) (by rw [n72 13 (by decide)]; exact z2) (by rw [n72 21 (by decide)]; exact z3) (by omega) ha16
        rw [nof 75 (by decide) (by decide), nof 78 (by decide) (by decide), nof 79 (by decide) (by decide), nof 96 (by decide) (by decide), nof 97 (by decide) (by decide), nof 98 (by decide) (by decide)] at hfl
        rw [← mvS_congr rN, ← mvP_congr rN, ← mvW_congr rN, ← mvR_congr rN, show wF (mS N) (mvR (mS M) nd rain (M.1 75)) = wF (mS M) (mvR (mS M) nd rain (M.1 75)) from funext fun k => (wF_congr rN _ k).symm, show pF (mS N) b' (mvW (mS M) nd nw rain (M.1 75)) = pF (mS M) b' (mvW (mS M) nd nw rain (M.1 75)) from funext fun k => (pF_congr rN _ _ k).symm, show sF (mS N) (h % 24) (mvP (mS M) nd nw j rain b' (M.1 75)) = sF (mS M) (h % 24) (mvP (mS M) nd nw j rain b' (M.1 75)) from funext fun k => (sF_congr rN _ _ k).symm, ← oP_congr rN, ← oS_congr rN] at hfl
        rw [show flR (mS N) nd rain (M.1 78) = flR (mS M) nd rain (M.1 78) by unfold flR; rw [rN 3 (by decide)]] at hfl
        rw [n72 27 (by decide), zh, hrem]
        refine ⟨_, hfl, ?_⟩
        intro M5 e5
        rw [N6_off _ _ _ _ _ _ _ (by decide), n72 27 (by decide), zh, nI_1] at e5
        have r5 : ∀ a ∈ rowL, mS M a = mS M5 a := fun a ha => by
          rw [rN a ha, e5, ui_row, ← mS_uc (by omega) a ha]
          exact N6_row a ha
        have hal := fn_X10_alarms (M := M5) (V.congr r5) (by rw [e5, ui_f (by decide), N6_off _ _ _ _ _ _ _ (by decide), n72 0 (by decide)]; exact z0)
        rw [show M5.1 75 = mvS (mS M) nd nw j ns rain (h % 24) b' (M.1 75) by rw [e5, ui_ne (by decide)]; exact N6_W] at hal
        refine ⟨_, _, hal, ?_, ?_⟩
        · unfold alm
          rw [show (fun d => if brc (mS M5) (mvS (mS M) nd nw j ns rain (h % 24) b' (M.1 75)) d ≤ 0 then (0 : Int32) else 1) = (fun d => if brc (mS M) (mvS (mS M) nd nw j ns rain (h % 24) b' (M.1 75)) d ≤ 0 then (0 : Int32) else 1) from funext fun d => by rw [brc_congr r5]]
        · rw [e5, ← hN]
          unfold stpM
          rw [ui_row (uc M 89 (pre j (bitI b') (M.1 89))) 72 28, uc_ne (show 72 ≠ 89 by decide)]
      · exact absurd (by rw [uc_at, upd_ne (by decide), z2]; exact nI_le (by omega) (by omega)) c
    | succ k ih =>
      intro j hj
      have nx := ih (j + 1) (by omega)
      have hj4 : j < 4 := by omega
      have cj : (nI j).toNatClampNeg = j := nI_clamp (by omega)
      have hbj := habit j hj4
      rw [show decide (j < np) = true by simp; omega, Bool.true_and] at hbj
      -- the third: cost
      have K93 : ∀ Mx : MM, Mx = uc (uc M 89 (pre (j + 1) (bitI b') (M.1 89))) 72 (upd (M.1 72) 28 (M.1 72 28 + M.1 95 (h % 24) * nI (pcn (b' % 2 ^ j)))) → At_X10_steps_62 G rain (nI (b' % 2 ^ j)) (nI j) (nI (b' % 2 ^ (j + 1))) Mx := by
        intro Mx eM
        have m89 : Mx.1 89 j = bitI b' j := by
          rw [eM, uc_ne (by decide), uc_at]
          unfold pre
          rw [if_pos (by omega)]
        have m7228 : Mx.1 72 28 = M.1 72 28 + M.1 95 (h % 24) * nI (pcn (b' % 2 ^ j)) := by rw [eM, uc_at, upd_at]
        have m7227 : Mx.1 72 27 = nI h := by rw [eM, uc_at, upd_ne (by decide)]; exact zh
        have m95 : Mx.1 95 = M.1 95 := by rw [eM, uc_ne (by decide), uc_ne (by decide)]
        refine b_X10_steps_62 g gr (by decide) _ _ _ _ _ ⟨by rw [vp_in_iff, nI_toInt (by omega)]; omega, ?_⟩
        rw [cj, m89, m7228, m7227, hrem, nI_clamp (show h % 24 < 2 ^ 31 by omega), m95]
        cases hq : b'.testBit j with
        | false =>
          refine ⟨fun _ => ?_, fun c => ?_⟩
          · refine b_X10_steps_93 g gr (by decide) _ _ _ _ _ _ ?_
            intro M1 e1 x2 e2
            rw [e1, e2, nI_1, ui_row, eM, uc_at, uc_uc, upd_upd, Int32.add_zero]
            rw [low_off b' ha16 j hj4 hq] at nx ⊢
            exact nx
          · exact absurd (by unfold bitI; rw [hq]; rfl) c
        | true =>
          refine ⟨fun c => ?_, fun _ => ⟨by decide, vp_in_nI (by omega) (by omega), ?_⟩⟩
          · unfold bitI at c; rw [hq] at c; exact absurd c (by decide)
          · refine b_X10_steps_93 g gr (by decide) _ _ _ _ _ _ ?_
            intro M1 e1 x2 e2
            rw [e1, e2, nI_1, ui_row, eM, uc_at, uc_uc, upd_upd, ring_1, ← (low_on b' ha16 j hj4 hq).2]
            exact nx
      have K43 : At_X10_steps_43 G rain (nI (b' % 2 ^ j)) (nI j) (nI j) (bitI b' j) (uc (uc M 89 (pre j (bitI b') (M.1 89))) 72 (upd (M.1 72) 28 (M.1 72 28 + M.1 95 (h % 24) * nI (pcn (b' % 2 ^ j))))) := by
        refine b_X10_steps_43 g gr (by decide) _ _ _ _ _ _ ⟨vp_in_nI hj4 (by omega), ?_⟩
        intro M2 e2
        rw [nar_bit, cj, ui_row, uc_ne (show 89 ≠ 72 by decide), uc_at, pre_s, uc_comm _ (show 72 ≠ 89 by decide), uc_uc] at e2
        have m89 : M2.1 89 j = bitI b' j := by
          rw [e2, uc_ne (by decide), uc_at]
          unfold pre
          rw [if_pos (by omega)]
        rw [cj, m89]
        refine ⟨vp_in_nI hj4 (by omega), fun c => ?_, fun c => ?_⟩
        · have hq : b'.testBit j = false := by
            cases hq : b'.testBit j with
            | false => rfl
            | true => unfold bitI at c; rw [hq] at c; exact absurd c (by decide)
          rw [or_0]
          have := K93 M2 e2
          rw [low_off b' ha16 j hj4 hq] at this
          exact this
        · have hq : b'.testBit j = true := by
            cases hq : b'.testBit j with
            | true => rfl
            | false => unfold bitI at c; rw [hq] at c; exact absurd rfl c
          rw [(low_on b' ha16 j hj4 hq).1]
          exact K93 M2 e2
      generalize hN : uc (uc M 89 (pre j (bitI b') (M.1 89))) 72 (upd (M.1 72) 28 (M.1 72 28 + M.1 95 (h % 24) * nI (pcn (b' % 2 ^ j)))) = N at K43 ⊢
      have m89 : N.1 89 j = bitI b j := by
        rw [← hN, uc_ne (by decide), uc_at]
        unfold pre
        rw [if_neg (by omega)]
        exact zb j hj4
      have m7227 : N.1 72 27 = nI h := by rw [← hN, uc_at, upd_ne (by decide)]; exact zh
      have rN : ∀ a ∈ rowL, mS M a = mS N a := fun a ha => by
        rw [← hN, ← mS_uc (by omega) a ha, ← mS_uc (by omega) a ha]
      refine b_X10_steps_4 g gr (by decide) _ _ _ _ ⟨fun c => ?_, fun _ => ⟨vp_in_nI hj4 (by omega), ?_⟩⟩
      · rw [← hN, uc_at, upd_ne (by decide), z2, nI_leI (by omega) (by omega)] at c; omega
      · rw [cj, m89, m7227]
        refine ⟨fun c => ?_, fun c => ⟨_, _, fn_isPaused hj4 (show h < 2 ^ 31 by omega), ?_⟩⟩
        · have hq : b.testBit j = false := by
            cases hq : b.testBit j with
            | false => rfl
            | true => unfold bitI at c; rw [hq] at c; exact absurd c (by decide)
          have e0 : bitI b' j = 0 := by unfold bitI; rw [hbj, hq]; rfl
          rw [e0] at K43
          exact K43
        · have hq : b.testBit j = true := by
            cases hq : b.testBit j with
            | true => rfl
            | false => unfold bitI at c; rw [hq] at c; exact absurd rfl c
          rw [← pz_congr rN]
          rw [hq, Bool.true_and] at hbj
          cases hz : pz (mS M) j h with
          | true =>
            rw [hz] at hbj
            have e0 : bitI b' j = 0 := by unfold bitI; rw [hbj]; rfl
            rw [e0] at K43
            exact ⟨fun _ => K43, fun c2 => absurd c2 (by decide)⟩
          | false =>
            rw [hz] at hbj
            have e0 : bitI b' j = 1 := by unfold bitI; rw [hbj]; rfl
            rw [e0] at K43
            exact ⟨fun c2 => absurd rfl c2, fun _ => K43⟩
  have := loop np 0 (by omega)
  have p0 : pcn (b' % 2 ^ 0) = 0 := by rw [Nat.pow_zero, Nat.mod_one]; decide
  rw [p0, pre_0, uc_self] at this
  have c0 : M.1 72 28 + M.1 95 (h % 24) * nI 0 = M.1 72 28 := by
    rw [nI_0, Int32.mul_zero, Int32.add_zero]
  rw [c0, show upd (M.1 72) 28 (M.1 72 28) = M.1 72 by funext i; by_cases hi : i = 28; (subst hi; simp [upd]); simp [upd, hi], uc_self, Nat.pow_zero, Nat.mod_one] at this
  exact this

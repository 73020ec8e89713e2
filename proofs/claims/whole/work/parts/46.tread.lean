/-! the class's planner: begin, tread, breachOf, isBetter -/
theorem nI_or (a b : Nat) : nI a ||| nI b = nI (a ||| b) := by
  refine Int32.toBitVec_inj.1 ?_
  show BitVec.ofNat 32 a ||| BitVec.ofNat 32 b = BitVec.ofNat 32 (a ||| b)
  rw [BitVec.ofNat_or]
theorem oth : ∀ b, b < 16 → (nI b >>> (2 &&& 31)) <<< (2 &&& 31) = nI (b / 4 * 4) := by decide +kernel
def WR (X : PX) (x k : Nat) (M : MM) : Prop := ∀ w, w < xt X → ∀ d, d < xd X → M.1 (39 + 3 * k + w) d = Wat X x w k d
/-- rows that a plan of k hours leaves alone -/
def Kp (k : Nat) (M M' : MM) : Prop := ∀ j, j ≠ 37 → ¬ (42 + 3 * k ≤ j ∧ j ≤ 63) → M'.1 j = M.1 j
theorem WB_low {W W' : Nat → Int32} {n : Nat} {B : Int} (h : ∀ d, d < n → W d = W' d) (b : WB W' n B) : WB W n B := by
  refine ⟨fun d hd => by rw [h d hd]; exact b.1 d hd, ?_⟩
  have : tot W n = tot W' n := by
    have aux : ∀ k, k ≤ n → tot W k = tot W' k := by
      intro k
      induction k with
      | zero => intro _; rfl
      | succ k ih =>
        intro hk
        unfold tot
        rw [ih (by omega), h k (by omega)]
    exact aux n (Nat.le_refl _)
  rw [this]
  exact b.2
section tread
variable {X : PX} {M : MM}
theorem shp_w {j : Nat} (h1 : 39 ≤ j) (h2 : j < 60) : shp j = (1, 0, 6, []) := by
  obtain ⟨i, rfl⟩ : ∃ i, j = 39 + i := ⟨j - 39, by omega⟩
  have : ∀ i, i < 21 → shp (39 + i) = (1, 0, 6, []) := by decide +kernel
  exact this i (by omega)
theorem shp_r {w : Nat} (h : w < 3) : shp (34 + w) = (1, 0, 6, []) := by
  have : ∀ i, i < 3 → shp (34 + i) = (1, 0, 6, []) := by decide +kernel
  exact this w h
theorem fn_begin (V : VX X) (E : EC X M) (x : Nat) : ∃ M', Fn 3 mX3_begin [.ref 37] M none M' ∧ (∀ j, ¬ (39 ≤ j ∧ j ≤ 41) → M'.1 j = M.1 j) ∧ M'.2 = M.2 ∧ WR X x 0 M' := by
  have h6 := V.1.d6
  obtain ⟨nwd, t1, t2, t3⟩ := E.2.2.2.2.2.1
  have ht := V.2.2.2.1
  -- the memory behind w worlds
  have st : ∀ w, w ≤ xt X → ∃ N : MM, (∀ G, Good G mX3_begin 3 → ∀ r C, GoodR G r C → At_X3_begin_2 G (nI w) N → At_X3_begin_2 G 0 M) ∧ (∀ j, ¬ (39 ≤ j ∧ j ≤ 41) → N.1 j = M.1 j) ∧ N.2 = M.2 ∧ ∀ v, v < w → ∀ d, d < xd X → N.1 (39 + v) d = xW X d := by
    intro w
    induction w with
    | zero => exact fun _ => ⟨M, fun G g r C gr h => h, fun _ _ => rfl, rfl, fun v hv => absurd hv (by omega)⟩
    | succ w ih =>
      intro hw
      obtain ⟨N, k1, k2, k3, k4⟩ := ih (by omega)
      refine ⟨uc N (39 + w) (va_cpy (N.1 7) (N.1 (39 + w)) 0 0 (xd X)), fun G g r C gr h => k1 G g r C gr ?_, fun j hj => ?_, k3, fun v hv d hd => ?_⟩
      · have c39 : (nI w).toNatClampNeg = w := nI_clamp (by omega)
        have e2 : N.1 2 7 = nI (xd X) := by rw [k2 2 (by omega)]; exact E.2.1
        have ft := fn_tried (M := N) t1 (by rw [k2 32 (by omega)]; exact t2)
        rw [t3] at ft
        refine b_X3_begin_2 g gr (by decide) _ N ⟨_, _, ft, fun c => ?_, fun _ => ⟨vp_in_nI (by omega) (by omega), by rw [c39]; exact shp_w (by omega) (by omega), by decide, ?_, ?_, ?_⟩⟩
        · rw [nI_leI (by omega) (by omega)] at c; omega
        · rw [e2, Int32.lt_iff_toInt_lt, nI_toInt (by omega), show (0 : Int32).toInt = 0 by decide]; omega
        · rw [e2, nI_clamp (by omega), show (0 : Int32).toNatClampNeg = 0 by decide]; omega
        · intro Q eQ y ey
          rw [eQ, ey, c39, e2, nI_clamp (by omega), show (0 : Int32).toNatClampNeg = 0 by decide, nI_1]
          exact h
      · rw [uc_ne (by omega)]; exact k2 j hj
      · by_cases e : v = w
        · subst e
          rw [uc_at, pk_cpy_in (by omega) (by omega), k2 7 (by omega), E.2.2.2.2.2.2.2.2.2]
          rw [Nat.sub_zero, Nat.zero_add]
        · rw [uc_ne (by omega)]
          exact k4 v (by omega) d hd
  obtain ⟨N, k1, k2, k3, k4⟩ := st (xt X) (Nat.le_refl _)
  refine ⟨N, fn_intro ok_X3_begin (Nat.le_of_ble_eq_true rfl) fun G g gr => b_X3_begin_0 g gr (by decide) M (k1 G g _ _ gr ?_), k2, k3, fun w hw d hd => ?_⟩
  · have ft := fn_tried (M := N) t1 (by rw [k2 32 (by omega)]; exact t2)
    rw [t3] at ft
    exact b_X3_begin_2 g gr (by decide) _ N ⟨_, _, ft, fun _ => ⟨rfl, rfl⟩, fun c => absurd (nI_le (by omega) (by omega)) c⟩
  · rw [show 39 + 3 * 0 + w = 39 + w by omega]
    exact k4 w hw d hd
theorem fn_tread (V : VX X) (E : EC X M) {x k : Nat} (hk : k < 6) (hW : WR X x k M) : ∃ M', Fn 5 mX3_tread [.ref 37, .int (nI k), .int (nI (dg x k))] M (some (.long (lN (bH X x k)))) M' ∧ (∀ j, ¬ (42 + 3 * k ≤ j ∧ j ≤ 44 + 3 * k) → ¬ (61 ≤ j ∧ j ≤ 63) → M'.1 j = M.1 j) ∧ M'.2 = M.2 ∧ WR X x (k + 1) M' := by
  have h6 := V.1.d6
  have h4 := V.1.p4
  have hh := V.2.2.1
  have hb := xb16 V
  have hoth : xb X / 4 * 4 < 16 := by omega
  obtain ⟨nwd, t1, t2, t3⟩ := E.2.2.2.2.2.1
  have ht := V.2.2.2.1
  have eaw : awk M.1 (xh X + k) (xb X / 4 * 4) (xp X) = awk (xS X) (xh X + k) (xb X / 4 * 4) (xp X) := (awk_congr E.1 _ _ _).symm
  have hob : oB X x k < 16 := or_lt (Nat.lt_of_lt_of_le (dg_lt x k) (by omega)) (awk_lt _ _ hoth _ h4)
  have st : ∀ w, w ≤ xt X → ∃ N : MM, (∀ G, Good G mX3_tread 5 → ∀ r C, GoodR G r C → At_X3_tread_49 G (nI k) (nI (dg x k)) (nI (xh X + k)) (nI (xb X / 4 * 4)) (nI (oB X x k)) (lN (sumN (fun w => bN (xS X) (xd X) (Wat X x w (k + 1))) w)) (nI w) N → At_X3_tread_49 G (nI k) (nI (dg x k)) (nI (xh X + k)) (nI (xb X / 4 * 4)) (nI (oB X x k)) 0 0 M) ∧ (∀ j, ¬ (42 + 3 * k ≤ j ∧ j ≤ 44 + 3 * k) → ¬ (61 ≤ j ∧ j ≤ 63) → N.1 j = M.1 j) ∧ N.2 = M.2 ∧ ∀ v, v < w → ∀ d, d < xd X → N.1 (42 + 3 * k + v) d = Wat X x v (k + 1) d := by
    intro w
    induction w with
    | zero => exact fun _ => ⟨M, fun G g r C gr h => h, fun _ _ _ => rfl, rfl, fun v hv => absurd hv (by omega)⟩
    | succ w ih =>
      intro hw
      obtain ⟨N, k1, k2, k3, k4⟩ := ih (by omega)
      have cw : (nI w).toNatClampNeg = w := nI_clamp (by omega)
      have ck : (nI k).toNatClampNeg = k := nI_clamp (by omega)
      generalize hM2 : uc N (42 + 3 * k + w) (va_cpy (N.1 (39 + 3 * k + w)) (N.1 (42 + 3 * k + w)) 0 0 (xd X)) = M2
      have o2 : ∀ j, j ≠ 42 + 3 * k + w → M2.1 j = N.1 j := fun j hj => by rw [← hM2]; exact uc_ne hj
      have EN : EC X N := EC.congr (fun j h1 h2 => k2 j (by omega) (by omega)) E V
      have E2 : EC X M2 := EC.congr (fun j h1 h2 => o2 j (by omega)) EN V
      have V2 : VLd M2.1 (xd X) (xw X) (xp X) (xs X) := V.1.congr E2.1
      have rw2 : ∀ d, d < xd X → M2.1 (42 + 3 * k + w) d = Wat X x w k d := fun d hd => by
        rw [← hM2, uc_at, pk_cpy_in (by omega) (by omega), Nat.sub_zero, Nat.zero_add, k2 _ (by omega) (by omega)]
        exact hW w (by omega) d hd
      have hmv := fn_move (M := M2) (w := 42 + 3 * k + w) (fl := 60) (fa := 61) (fb := 62) (fc := 63) (h := xh X + k) (b := oB X x k) (rain := xR X w k) V2 E2.2.1 E2.2.2.1 E2.2.2.2.1 E2.2.2.2.2.1 (by omega) hob (by unfold Dst; omega) (shp_w (by omega) (by omega)) sh_60 sh_61 sh_62 sh_63
      generalize hM3 : N4 M2 (42 + 3 * k + w) 61 62 63 (mvS M2.1 (xd X) (xw X) (xp X) (xs X) (xR X w k) ((xh X + k) % 24) (oB X x k) (M2.1 (42 + 3 * k + w))) (pre (xw X) (wF M2.1 (mvR M2.1 (xd X) (xR X w k) (M2.1 (42 + 3 * k + w)))) (M2.1 61)) (pre (xp X) (pF M2.1 (oB X x k) (mvW M2.1 (xd X) (xw X) (xR X w k) (M2.1 (42 + 3 * k + w)))) (M2.1 62)) (pre (xs X) (sF M2.1 ((xh X + k) % 24) (mvP M2.1 (xd X) (xw X) (xp X) (xR X w k) (oB X x k) (M2.1 (42 + 3 * k + w)))) (M2.1 63)) = M3 at hmv
      have DD : Dst (42 + 3 * k + w) 61 62 63 := by unfold Dst; omega
      have o3 : ∀ j, j ≠ 42 + 3 * k + w → ¬ (61 ≤ j ∧ j ≤ 63) → M3.1 j = N.1 j := fun j h1 h2 => by
        rw [← hM3, N4_off _ _ _ _ _ ⟨h1, by omega, by omega, by omega⟩]
        exact o2 j h1
      have E3 : EC X M3 := EC.congr (fun j h1 h2 => o3 j (by omega) (by omega)) EN V
      have row3 : ∀ d, d < xd X → M3.1 (42 + 3 * k + w) d = Wat X x w (k + 1) d := fun d hd => by
        rw [← hM3, N4_w DD, ← mvS_congr E2.1]
        exact (mvS_low V.1 rw2).1 d hd
      have hal := fn_X0_allBreach (M := M3) (w := 42 + 3 * k + w) (V.1.congr E3.1) E3.2.1 (shp_w (by omega) (by omega))
      have wbn := WB_low row3 (wat_wb V (x := x) (w := w) (by omega) (k + 1) (by omega))
      have eal : allB M3.1 (xd X) (M3.1 (42 + 3 * k + w)) = lN (bN (xS X) (xd X) (Wat X x w (k + 1))) := by
        rw [← bN_low row3, ← allB_N V.1 wbn (by omega)]
        unfold allB
        rw [show (fun d => (brc M3.1 (M3.1 (42 + 3 * k + w)) d).toInt64) = (fun d => (brc (xS X) (M3.1 (42 + 3 * k + w)) d).toInt64) from funext fun d => by rw [brc_congr E3.1]]
      rw [eal] at hal
      refine ⟨M3, fun G g r C gr h => k1 G g r C gr ?_, fun j h1 h2 => by rw [o3 j (by omega) h2]; exact k2 j h1 h2, by rw [← hM3, ← hM2]; exact k3, fun v hv d hd => ?_⟩
      · have e2 : N.1 2 7 = nI (xd X) := EN.2.1
        have ft := fn_tried (M := N) t1 (by rw [k2 32 (by omega) (by omega)]; exact t2)
        rw [t3] at ft
        have i1 : (nI k + 1) * 3 + nI w = nI (3 + 3 * k + w) := by rw [nI_1, show (3 : Int32) = nI 3 from rfl, pk_mul, nI_add]; congr 1; omega
        have i2 : nI k * 3 + nI w = nI (3 * k + w) := by rw [show (3 : Int32) = nI 3 from rfl, pk_mul, nI_add]; congr 1; omega
        have i3 : 39 + (3 + 3 * k + w) = 42 + 3 * k + w := by omega
        have i4 : 39 + (3 * k + w) = 39 + 3 * k + w := by omega
        refine b_X3_tread_49 g gr (by decide) _ _ _ _ _ _ _ N ⟨_, _, ft, fun c => ?_, fun _ => ?_⟩
        · rw [nI_leI (by omega) (by omega)] at c; omega
        · rw [i1, i2, nI_clamp (show 3 + 3 * k + w < 2 ^ 31 by omega), nI_clamp (show 3 * k + w < 2 ^ 31 by omega), i3, i4, e2, nI_clamp (show xd X < 2 ^ 31 by omega), show (0 : Int32).toNatClampNeg = 0 by decide, cw, ck, hM2]
          refine ⟨vp_in_nI (by omega) (by omega), shp_w (by omega) (by omega), vp_in_nI (by omega) (by omega), shp_w (by omega) (by omega), by decide, ?_, by omega, ?_⟩
          · rw [Int32.lt_iff_toInt_lt, nI_toInt (by omega), show (0 : Int32).toInt = 0 by decide]; omega
          · intro Q eQ
            rw [eQ, E2.2.2.2.2.2.2.2.2.1 w (by omega) k hk]
            refine ⟨vp_in_nI (by omega) (by omega), shp_r (by omega), vp_in_nI (by omega) (by omega), M3, hmv, _, _, hal, fun y ey z ez => ?_⟩
            rw [ey, ez, nI_1, lN_add]
            exact h
      · by_cases e : v = w
        · subst e; exact row3 d hd
        · rw [o3 _ (by omega) (by omega)]
          exact k4 v (by omega) d hd
  obtain ⟨N, k1, k2, k3, k4⟩ := st (xt X) (Nat.le_refl _)
  refine ⟨N, fn_intro ok_X3_tread (Nat.le_of_ble_eq_true rfl) fun G g gr => ?_, k2, k3, fun w hw d hd => ?_⟩
  · refine b_X3_tread_0 g gr (by decide) _ _ M ?_
    rw [E.2.2.2.2.2.2.1, E.2.2.2.2.2.2.2.1, oth _ hb, nI_add]
    intro y ey z ez
    rw [ey, ez]
    refine ⟨_, _, fn_awake h4 E.2.2.2.1 hoth (by omega), fun u eu => ?_⟩
    rw [eu, eaw, nI_or]
    refine k1 G g _ _ gr ?_
    have ft := fn_tried (M := N) t1 (by rw [k2 32 (by omega) (by omega)]; exact t2)
    rw [t3] at ft
    exact b_X3_tread_49 g gr (by decide) _ _ _ _ _ _ _ N ⟨_, _, ft, fun _ => ⟨rfl, rfl⟩, fun c => absurd (nI_le (by omega) (by omega)) c⟩
  · rw [show 39 + 3 * (k + 1) + w = 42 + 3 * k + w by omega]
    exact k4 w hw d hd
theorem fn_X3_breachOf (V : VX X) (E : EC X M) {x n : Nat} (hx : x < 4096) (hn : n ≤ 6) : ∃ M', Fn 6 mX3_breachOf [.ref 37, .int (nI n), .int (nI x)] M (some (.long (lN (bT X x n)))) M' ∧ ∀ j, j ≠ 37 → ¬ (39 ≤ j ∧ j ≤ 63) → M'.1 j = M.1 j := by
  obtain ⟨M1, f1, o1, -, w1⟩ := fn_begin V E x
  have st : ∀ k, k ≤ n → ∃ N : MM, (∀ G, Good G mX3_breachOf 6 → ∀ r C, GoodR G r C → At_X3_breachOf_9 G (nI n) (nI x) (lN (bT X x k)) (nI k) N → At_X3_breachOf_9 G (nI n) (nI x) 0 0 M1) ∧ (∀ j, j ≠ 37 → ¬ (39 ≤ j ∧ j ≤ 63) → N.1 j = M.1 j) ∧ WR X x k N := by
    intro k
    induction k with
    | zero => exact fun _ => ⟨M1, fun G g r C gr h => h, fun j h1 h2 => o1 j (by omega), w1⟩
    | succ k ih =>
      intro hk
      obtain ⟨N, k1, k2, k3⟩ := ih (by omega)
      have EN : EC X N := EC.congr k2 E V
      obtain ⟨N2, g1, g2, -, g3⟩ := fn_tread V EN (show k < 6 by omega) k3
      refine ⟨N2, fun G g r C gr h => k1 G g r C gr ?_, fun j h1 h2 => by rw [g2 j (by omega) (by omega)]; exact k2 j h1 h2, g3⟩
      refine b_X3_breachOf_9 g gr (by decide) _ _ _ _ N ⟨fun c => ?_, fun _ => ⟨_, _, fn_bitsOf hx (by omega), _, _, g1, ?_⟩⟩
      · rw [nI_leI (by omega) (by omega)] at c; omega
      · intro y ey z ez
        rw [ey, ez, nI_1, lN_add]
        exact h
  obtain ⟨N, k1, k2, -⟩ := st n (Nat.le_refl _)
  refine ⟨N, fn_intro ok_X3_breachOf (Nat.le_of_ble_eq_true rfl) fun G g gr => b_X3_breachOf_0 g gr (by decide) _ _ M ⟨M1, f1, k1 G g _ _ gr ?_⟩, k2⟩
  exact b_X3_breachOf_9 g gr (by decide) _ _ _ _ N ⟨fun _ => ⟨rfl, rfl⟩, fun c => absurd (nI_le (by omega) (by omega)) c⟩
end tread

/-! the class's planner: the search -/
theorem lN_leB {a b : Nat} (ha : a < 9223372036854775808) (hb : b < 9223372036854775808) : lN a ≤ lN b ↔ a ≤ b := by
  rw [Int64.le_iff_toInt_le, pk_lT ha, pk_lT hb]; omega
theorem lN_eqB {a b : Nat} (ha : a < 9223372036854775808) (hb : b < 9223372036854775808) : lN a = lN b ↔ a = b := by
  rw [← Int64.toInt_inj, pk_lT ha, pk_lT hb]; omega
def BM (M : MM) (B : KY) : Prop := M.2 37 7 = lN B.1 ∧ M.2 37 6 = lN B.2.1 ∧ M.1 37 5 = nI B.2.2 ∧ B.1 ≤ 4611686018427387904 ∧ B.2.1 ≤ 2400 ∧ B.2.2 < 4096
section grow
variable {X : PX} {M : MM}
theorem fn_isBetter {B : KY} (H : BM M B) {x br co : Nat} {v : Int32} (hx : x < 4096) (hb : br ≤ 4611686018427387904) (hc : co ≤ 2400) (hv : (kl (br, co, x) B ∧ v = 1) ∨ (¬ kl (br, co, x) B ∧ v = 0)) : Fn 1 mX3_isBetter [.ref 37, .int (nI x), .long (lN co), .long (lN br)] M (some (.int v)) M := fn_intro ok_X3_isBetter (Nat.le_of_ble_eq_true rfl) fun G g gr => by
  obtain ⟨m1, m2, m3, m4, m5, m6⟩ := H
  refine b_X3_isBetter_0 g gr (by decide) _ _ _ M ?_
  rw [m1, m2, m3]
  have e1 := lN_eqB (a := br) (b := B.1) (by omega) (by omega)
  have e2 := lN_eqB (a := co) (b := B.2.1) (by omega) (by omega)
  have e3 := lN_leB (a := B.1) (b := br) (by omega) (by omega)
  have e4 := lN_leB (a := B.2.1) (b := co) (by omega) (by omega)
  have e5 := nI_leI (a := B.2.2) (b := x) (by omega) (by omega)
  unfold kl at hv
  simp only at hv
  refine ⟨fun c => ?_, fun c => ?_⟩
  · rw [e1] at c
    by_cases c2 : lN co = lN B.2.1
    · rw [if_pos c2]
      rw [e2] at c2
      refine ⟨ite_01, ?_, rfl⟩
      by_cases c3 : nI B.2.2 ≤ nI x
      · rw [if_pos c3]
        rw [e5] at c3
        rcases hv with ⟨h, _⟩ | ⟨_, rfl⟩
        · omega
        · rfl
      · rw [if_neg c3]
        rw [e5] at c3
        rcases hv with ⟨_, rfl⟩ | ⟨h, _⟩
        · rfl
        · omega
    · rw [if_neg c2]
      rw [e2] at c2
      refine ⟨ite_01, ?_, rfl⟩
      by_cases c3 : lN co ≥ lN B.2.1
      · rw [if_pos c3]
        have c3 := e4.mp c3
        rcases hv with ⟨h, _⟩ | ⟨_, rfl⟩
        · omega
        · rfl
      · rw [if_neg c3]
        have c3 : ¬ B.2.1 ≤ co := fun h => c3 (e4.mpr h)
        rcases hv with ⟨_, rfl⟩ | ⟨h, _⟩
        · rfl
        · omega
  · rw [e1] at c
    refine ⟨ite_01, ?_, rfl⟩
    by_cases c3 : lN br ≥ lN B.1
    · rw [if_pos c3]
      have c3 := e3.mp c3
      rcases hv with ⟨h, _⟩ | ⟨_, rfl⟩
      · omega
      · rfl
    · rw [if_neg c3]
      have c3 : ¬ B.1 ≤ br := fun h => c3 (e3.mpr h)
      rcases hv with ⟨_, rfl⟩ | ⟨h, _⟩
      · rfl
      · omega
/-- y goes on from x -/
def Ex (X : PX) (n k x y : Nat) : Prop := y < 4 ^ n ∧ y % 4 ^ k = x ∧ isP X n y ∧ Wel X n y
def Gr (X : PX) (n k x : Nat) (B B' : KY) : Prop := ¬ kl B B' ∧ (B' = B ∨ ∃ y, Ex X n k x y ∧ B' = key X n y) ∧ ∀ y, Ex X n k x y → ¬ kl (key X n y) B'
theorem bT_mono {x a b : Nat} (h : a ≤ b) : bT X x a ≤ bT X x b := sumN_mono b h
theorem cT_mono {x a b : Nat} (h : a ≤ b) : cT X x a ≤ cT X x b := sumN_mono b h
/-- pruned: nothing that goes on is better -/
theorem prune {n k x y : Nat} {br : Nat} {B : KY} (hkn : k ≤ n) (E : Ex X n k x y) (hb : br ≤ bT X x k) (h : ¬ kl (br, cT X x k, x) B) : ¬ kl (key X n y) B := by
  obtain ⟨e1, e2, e3, e4⟩ := E
  have sm : ∀ j, j < k → dg x j = dg y j := fun j hj => by rw [← e2]; exact dg_mod hj
  refine kl_gr h ?_ ?_ ?_
  · show br ≤ bT X y n
    rw [bT_sm sm] at hb
    exact Nat.le_trans hb (bT_mono hkn)
  · show cT X x k ≤ cT X y n
    rw [cT_sm sm]
    exact cT_mono hkn
  · show x ≤ y
    rw [← e2]
    exact Nat.mod_le _ _
theorem fn_grow (V : VX X) {n : Nat} (hn : n ≤ 6) : ∀ (m k : Nat), k + m = n → ∀ (l : Nat), 7 + m ≤ l → ∀ (x : Nat) (M : MM) (B : KY), x < 4 ^ k → (∀ j, j < k → dg x j < 2 ^ min (xp X) 2) → (∀ j, j < k → fit X j x) → EC X M → M.1 37 4 = nI n → WR X x k M → BM M B → kl (bT X x k, cT X x k, x) B →
    ∃ M' B', Fn l mX3_grow [.ref 37, .int (nI k), .int (nI x), .long (lN (cT X x k)), .long (lN (bT X x k))] M none M' ∧ Kp k M M' ∧ M'.1 37 4 = nI n ∧ BM M' B' ∧ Gr X n k x B B'
  | 0, k, hkm, l, hl, x, M, B, hx, hd, hf, E, h4, hW, hB, hkl => by
    have hk : k = n := by omega
    subst hk
    have hpn := pow_n hn
    refine ⟨ul (ul (ui M 37 5 (nI x)) 37 6 (lN (cT X x k))) 37 7 (lN (bT X x k)), key X k x, fn_intro ok_X3_grow (Nat.le_of_ble_eq_true rfl) fun G g gr => ?_, fun j h1 _ => ui_diff h1, ?_, ⟨?_, ?_, ?_, ?_, ?_, ?_⟩, ?_, Or.inr ⟨x, ⟨hx, Nat.mod_eq_of_lt hx, hd, hf⟩, rfl⟩, fun y hy => ?_⟩
    · refine b_X3_grow_0 g gr (by omega) (n1 := 6) (by omega) _ _ _ _ M ⟨fun _ Q e Q2 e2 Q3 e3 => ⟨rfl, by rw [e3, e2, e]⟩, fun c => absurd (by rw [h4]; exact nI_le (by omega) (by omega)) c⟩
    · show (ui M 37 5 (nI x)).1 37 4 = _
      rw [ui_f (by decide)]
      exact h4
    · simp [ul, key]
    · simp [ul, key]
    · show (ui M 37 5 (nI x)).1 37 5 = _
      rw [ui_at]
      rfl
    · have := bT_lt V x k hn
      show bT X x k ≤ _
      omega
    · exact cT_lt V x k hn
    · show x < 4096
      omega
    · intro h
      exact kl_ir _ (kl_tr hkl h)
    · obtain ⟨e1, e2, -, -⟩ := hy
      have : y = x := by rw [← e2]; exact (Nat.mod_eq_of_lt e1).symm
      subst this
      exact kl_ir _
  | m + 1, k, hkm, l, hl, x, M, B, hx, hd, hf, E, h4, hW, hB, hkl => by
    have hk6 : k < 6 := by omega
    have hpn := pow_n hn
    have hxk : x < 4096 := Nat.lt_of_lt_of_le hx (Nat.le_trans (Nat.pow_le_pow_right (n := 4) (by omega) (show k ≤ n by omega)) hpn)
    have hp4 := V.1.p4
    have hc2 := pow_c (c := min (xp X) 2) (by omega)
    obtain ⟨l', rfl⟩ : ∃ l', l = l' + 1 := ⟨l - 1, by omega⟩
    have st : ∀ c, c ≤ 2 ^ min (xp X) 2 → ∃ (N : MM) (Bc : KY), (∀ G, Good G mX3_grow (l' + 1) → ∀ r C, GoodR G r C → At_X3_grow_48 G (nI k) (nI x) (lN (cT X x k)) (lN (bT X x k)) (nI (2 ^ min (xp X) 2)) (nI c) N → At_X3_grow_48 G (nI k) (nI x) (lN (cT X x k)) (lN (bT X x k)) (nI (2 ^ min (xp X) 2)) 0 M) ∧ Kp k M N ∧ N.1 37 4 = nI n ∧ BM N Bc ∧ ¬ kl B Bc ∧ (Bc = B ∨ ∃ y, Ex X n k x y ∧ Bc = key X n y) ∧ ∀ y, Ex X n k x y → dg y k < c → ¬ kl (key X n y) Bc := by
      intro c
      induction c with
      | zero => exact fun _ => ⟨M, B, fun G g r C gr h => h, fun _ _ _ => rfl, h4, hB, kl_ir _, Or.inl rfl, fun y _ hy => absurd hy (by omega)⟩
      | succ c ih =>
        intro hc
        obtain ⟨N, Bc, k1, k2, k3, k4, k5, k6, k7⟩ := ih (by omega)
        have hc4 : c < 4 := by omega
        have EN : EC X N := EC.congr (fun j h1 h2 => k2 j h1 (by omega)) E V
        have ex' := ext_of hx hk6 hc4
        generalize hx' : x + c * 4 ^ k = x' at ex'
        have dgk : dg x' k = c := by rw [← hx']; exact dg_ext hx hc4
        have dgl : ∀ j, j < k → dg x' j = dg x j := fun j hj => by rw [← hx']; exact dg_low hj
        have hx'k : x' < 4 ^ (k + 1) := by
          rw [← hx', Nat.pow_succ]
          have : c * 4 ^ k ≤ 3 * 4 ^ k := Nat.mul_le_mul_right _ (by omega)
          omega
        have hx'4 : x' < 4096 := Nat.lt_of_lt_of_le hx'k (pow_n (show k + 1 ≤ 6 by omega))
        have ecT : cT X x' (k + 1) = cT X x k + cH X x' k := by
          show cT X x' k + cH X x' k = _
          rw [cT_sm dgl]
        have ebT : bT X x' (k + 1) = bT X x k + bH X x' k := by
          show bT X x' k + bH X x' k = _
          rw [bT_sm dgl]
        have eEx : ∀ y, Ex X n k x y → dg y k = c → Ex X n (k + 1) x' y := fun y hy hyk => by
          obtain ⟨a1, a2, a3, a4⟩ := hy
          exact ⟨a1, by rw [mod_s, a2, hyk, hx'], a3, a4⟩
        have hcost := fn_cost_l (x := x') V EN hk6
        rw [dgk] at hcost
        have ccl := (cH_lt V x' k).1
        have cT6 := cT_lt V x' (k + 1) (by omega)
        have bT6 := bT_lt V x' (k + 1) (by omega)
        -- how the loop goes on without a change
        have skip : (∀ y, Ex X n k x y → dg y k = c → ¬ kl (key X n y) Bc) → ∀ N2 : MM, (∀ j, j ≠ 37 → ¬ (42 + 3 * k ≤ j ∧ j ≤ 63) → N2.1 j = N.1 j) → N2.1 37 = N.1 37 → N2.2 = N.2 → (∀ G, Good G mX3_grow (l' + 1) → ∀ r C, GoodR G r C → At_X3_grow_48 G (nI k) (nI x) (lN (cT X x k)) (lN (bT X x k)) (nI (2 ^ min (xp X) 2)) (nI (c + 1)) N2 → At_X3_grow_48 G (nI k) (nI x) (lN (cT X x k)) (lN (bT X x k)) (nI (2 ^ min (xp X) 2)) (nI c) N) → ∃ (N : MM) (Bc : KY), (∀ G, Good G mX3_grow (l' + 1) → ∀ r C, GoodR G r C → At_X3_grow_48 G (nI k) (nI x) (lN (cT X x k)) (lN (bT X x k)) (nI (2 ^ min (xp X) 2)) (nI (c + 1)) N → At_X3_grow_48 G (nI k) (nI x) (lN (cT X x k)) (lN (bT X x k)) (nI (2 ^ min (xp X) 2)) 0 M) ∧ Kp k M N ∧ N.1 37 4 = nI n ∧ BM N Bc ∧ ¬ kl B Bc ∧ (Bc = B ∨ ∃ y, Ex X n k x y ∧ Bc = key X n y) ∧ ∀ y, Ex X n k x y → dg y k < c + 1 → ¬ kl (key X n y) Bc := fun hy N2 o1 o2 o3 hgo =>
          ⟨N2, Bc, fun G g r C gr h => k1 G g r C gr (hgo G g r C gr h), fun j h1 h2 => by rw [o1 j h1 h2]; exact k2 j h1 h2, by rw [o2]; exact k3, by unfold BM; rw [o2, o3]; exact k4, k5, k6, fun y h1 h2 => by
            by_cases e : dg y k = c
            · exact hy y h1 e
            · exact k7 y h1 (by omega)⟩
        have hlt : ¬ (nI (2 ^ min (xp X) 2) : Int32) ≤ nI c := by rw [nI_leI (by omega) (by omega)]; omega
        -- up to fits
        have front : ∀ (G : GC) (r : Option Value) (C : MM), Good G mX3_grow (l' + 1) → GoodR G r C → (∀ (v : Int32), ((fit X k x' ∧ v = 1) ∨ (¬ fit X k x' ∧ v = 0)) → ((v = (0 : Int32) → (∀ y : Int32, y = nI c + 1 → At_X3_grow_48 G (nI k) (nI x) (lN (cT X x k)) (lN (bT X x k)) (nI (2 ^ min (xp X) 2)) y N)) ∧ (¬ (v = (0 : Int32)) → (∃ (r14 : Int32) (M12 : MM), Fn 1 mX3_isBetter [.ref 37, .int (nI x'), .long (lN (cT X x' (k + 1))), .long (lN (bT X x k))] N (some (.int r14)) M12 ∧ ((¬ r14 = (0 : Int32) → (∃ (r18 : Int64) (M16 : MM), Fn 5 mX3_tread [.ref 37, .int (nI k), .int (nI c)] M12 (some (.long r18)) M16 ∧ (∀ x19 : Int64, x19 = (lN (bT X x k) + r18) → (∃ (r22 : Int32) (M20 : MM), Fn 1 mX3_isBetter [.ref 37, .int (nI x'), .long (lN (cT X x' (k + 1))), .long x19] M16 (some (.int r22)) M20 ∧ ((r22 = (0 : Int32) → (∀ x24 : Int32, x24 = nI c + 1 → At_X3_grow_48 G (nI k) (nI x) (lN (cT X x k)) (lN (bT X x k)) (nI (2 ^ min (xp X) 2)) x24 M20)) ∧ (¬ (r22 = (0 : Int32)) → (∃ M25 : MM, Fn l' mX3_grow [.ref 37, .int (nI k + 1), .int (nI x'), .long (lN (cT X x' (k + 1))), .long x19] M20 none M25 ∧ (∀ x27 : Int32, x27 = nI c + 1 → At_X3_grow_48 G (nI k) (nI x) (lN (cT X x k)) (lN (bT X x k)) (nI (2 ^ min (xp X) 2)) x27 M25)))))))) ∧ (r14 = (0 : Int32) → (∀ x28 : Int32, x28 = nI c + 1 → At_X3_grow_48 G (nI k) (nI x) (lN (cT X x k)) (lN (bT X x k)) (nI (2 ^ min (xp X) 2)) x28 M12))))))) → At_X3_grow_48 G (nI k) (nI x) (lN (cT X x k)) (lN (bT X x k)) (nI (2 ^ min (xp X) 2)) (nI c) N := fun G r C g gr hgo => by
          refine b_X3_grow_48 g gr (by omega) (n1 := l') (by omega) _ _ _ _ _ _ N ⟨fun c9 => absurd c9 hlt, fun _ => ?_⟩
          intro y ey
          rw [ey, ex', EN.2.2.2.2.2.2.1, nI_add]
          refine ⟨_, _, hcost, fun z ez => ?_⟩
          rw [ez, nI_l (by omega), lN_add, ← ecT]
          by_cases hfit : fit X k x'
          · exact ⟨1, N, fn_fits V EN hx'4 hk6 (Or.inl ⟨hfit, rfl⟩), hgo 1 (Or.inl ⟨hfit, rfl⟩)⟩
          · exact ⟨0, N, fn_fits V EN hx'4 hk6 (Or.inr ⟨hfit, rfl⟩), hgo 0 (Or.inr ⟨hfit, rfl⟩)⟩
        by_cases hfit : fit X k x'
        · by_cases hb1 : kl (bT X x k, cT X x' (k + 1), x') Bc
          · have hWN : WR X x' k N := fun w hw d hd => by
              rw [k2 _ (by omega) (by have := V.2.2.2.1.2; omega), Wat_sm k dgl]
              exact hW w hw d hd
            obtain ⟨N2, t1, t2, t3, t4⟩ := fn_tread V EN hk6 hWN
            rw [dgk] at t1
            have o37 : N2.1 37 = N.1 37 := t2 37 (by omega) (by omega)
            have hBM2 : BM N2 Bc := by unfold BM; rw [o37, t3]; exact k4
            have EN2 : EC X N2 := EC.congr (fun j h1 h2 => t2 j (by omega) (by omega)) EN V
            by_cases hb2 : kl (bT X x' (k + 1), cT X x' (k + 1), x') Bc
            · have hd' : ∀ j, j < k + 1 → dg x' j < 2 ^ min (xp X) 2 := fun j hj => by
                by_cases e : j = k
                · subst e; rw [dgk]; omega
                · rw [dgl j (by omega)]; exact hd j (by omega)
              have hf' : ∀ j, j < k + 1 → fit X j x' := fun j hj => by
                by_cases e : j = k
                · subst e; exact hfit
                · exact (fit_sm fun i hi => dgl i (by omega)).mpr (hf j (by omega))
              obtain ⟨N3, B3, g1, g2, g3, g4, g5, g6, g7⟩ := fn_grow V hn m (k + 1) (by omega) l' (by omega) x' N2 Bc hx'k hd' hf' EN2 (by rw [o37]; exact k3) t4 hBM2 hb2
              refine ⟨N3, B3, fun G g r C gr h => k1 G g r C gr (front G r C g gr fun v hv => ?_), fun j h1 h2 => ?_, g3, g4, ?_, ?_, fun y h1 h2 => ?_⟩
              · rcases hv with ⟨_, rfl⟩ | ⟨h9, _⟩
                · refine ⟨fun c9 => absurd c9 (by decide), fun _ => ⟨1, N, fn_isBetter k4 hx'4 (by omega) cT6 (Or.inl ⟨hb1, rfl⟩), fun _ => ⟨_, _, t1, fun y ey => ?_⟩, fun c9 => absurd c9 (by decide)⟩⟩
                  rw [ey, lN_add, ← ebT]
                  refine ⟨1, N2, fn_isBetter hBM2 hx'4 (by omega) cT6 (Or.inl ⟨hb2, rfl⟩), fun c9 => absurd c9 (by decide), fun _ => ⟨N3, by rw [nI_1]; exact g1, fun z ez => ?_⟩⟩
                  rw [ez, nI_1]
                  exact h
                · exact absurd hfit h9
              · rw [g2 j h1 (by omega), t2 j (by omega) (by omega)]
                exact k2 j h1 h2
              · intro h9
                by_cases e : kl B Bc
                · exact k5 e
                · by_cases e2 : kl Bc B
                  · exact g5 (kl_tr e2 h9)
                  · rw [kl_tot e e2] at h9
                    exact g5 h9
              · rcases g6 with rfl | ⟨y, hy, rfl⟩
                · exact k6
                · obtain ⟨a1, a2, a3, a4⟩ := hy
                  refine Or.inr ⟨y, ⟨a1, ?_, a3, a4⟩, rfl⟩
                  rw [← Nat.mod_mod_of_dvd y (show 4 ^ k ∣ 4 ^ (k + 1) from ⟨4, by rw [Nat.pow_succ]⟩), a2, ← hx', Nat.add_mul_mod_self_right, Nat.mod_eq_of_lt hx]
              · by_cases e : dg y k = c
                · exact g7 y (eEx y h1 e)
                · have h7 := k7 y h1 (by omega)
                  intro h9
                  -- key y < B3 ≤ Bc
                  by_cases e1 : kl B3 Bc
                  · exact h7 (kl_tr h9 e1)
                  · rw [kl_tot e1 g5] at h9
                    exact h7 h9
            · refine skip (fun y h1 h2 => prune (by omega) (eEx y h1 h2) (Nat.le_refl _) hb2) N2 (fun j h1 h2 => t2 j (by omega) (by omega)) o37 t3 (fun G g r C gr h => front G r C g gr fun v hv => ?_)
              rcases hv with ⟨_, rfl⟩ | ⟨h9, _⟩
              · refine ⟨fun c9 => absurd c9 (by decide), fun _ => ⟨1, N, fn_isBetter k4 hx'4 (by omega) cT6 (Or.inl ⟨hb1, rfl⟩), fun _ => ⟨_, _, t1, fun y ey => ?_⟩, fun c9 => absurd c9 (by decide)⟩⟩
                rw [ey, lN_add, ← ebT]
                refine ⟨0, N2, fn_isBetter hBM2 hx'4 (by omega) cT6 (Or.inr ⟨hb2, rfl⟩), fun _ z ez => ?_, fun c9 => absurd rfl c9⟩
                rw [ez, nI_1]
                exact h
              · exact absurd hfit h9
          · refine skip (fun y h1 h2 => prune (by omega) (eEx y h1 h2) (by omega) hb1) N (fun _ _ _ => rfl) rfl rfl (fun G g r C gr h => front G r C g gr fun v hv => ?_)
            rcases hv with ⟨_, rfl⟩ | ⟨h9, _⟩
            · refine ⟨fun c9 => absurd c9 (by decide), fun _ => ⟨0, N, fn_isBetter k4 hx'4 (by omega) cT6 (Or.inr ⟨hb1, rfl⟩), fun c9 => absurd rfl c9, fun _ z ez => ?_⟩⟩
              rw [ez, nI_1]
              exact h
            · exact absurd hfit h9
        · refine skip (fun y h1 h2 => ?_) N (fun _ _ _ => rfl) rfl rfl (fun G g r C gr h => front G r C g gr fun v hv => ?_)
          · exfalso
            obtain ⟨a1, a2, a3, a4⟩ := eEx y h1 h2
            refine hfit ((fit_sm fun j hj => ?_).mpr (a4 k (by omega)))
            rw [← a2]
            exact dg_mod hj
          · rcases hv with ⟨h9, _⟩ | ⟨_, rfl⟩
            · exact absurd h9 hfit
            · refine ⟨fun _ z ez => ?_, fun c9 => absurd rfl c9⟩
              rw [ez, nI_1]
              exact h
    obtain ⟨N, Bc, k1, k2, k3, k4, k5, k6, k7⟩ := st _ (Nat.le_refl _)
    refine ⟨N, Bc, fn_intro ok_X3_grow (Nat.le_of_ble_eq_true rfl) fun G g gr => ?_, k2, k3, k4, k5, k6, fun y hy => k7 y hy (hy.2.2.1 k (by omega))⟩
    refine b_X3_grow_0 g gr (by omega) (n1 := l') (by omega) _ _ _ _ M ⟨fun c => ?_, fun _ => ⟨fun _ => ⟨_, _, fn_inPlans hp4 E.2.2.2.1, fun y ey => ?_⟩, fun c => absurd ((nI_ltI (b := 6) (by omega) (by omega)).mpr hk6) c⟩⟩
    · rw [h4, nI_leI (by omega) (by omega)] at c; omega
    · rw [ey, sh_c (by omega)]
      refine k1 G g _ _ gr ?_
      exact b_X3_grow_48 g gr (by omega) (n1 := l') (by omega) _ _ _ _ _ _ N ⟨fun _ => ⟨rfl, rfl⟩, fun c => absurd (nI_le (Nat.le_refl _) (by omega)) c⟩
end grow
/-! what a search leaves -/
def Best (X : PX) (n : Nat) (B : KY) : Prop := (∃ y, y < 4 ^ n ∧ isP X n y ∧ Wel X n y ∧ B = key X n y) ∧ ∀ y, y < 4 ^ n → isP X n y → Wel X n y → ¬ kl (key X n y) B
theorem Best.uniq {X : PX} {n : Nat} {B B' : KY} (h : Best X n B) (h' : Best X n B') : B = B' := by
  obtain ⟨⟨y, a1, a2, a3, a4⟩, a5⟩ := h
  obtain ⟨⟨z, b1, b2, b3, b4⟩, b5⟩ := h'
  refine kl_tot ?_ ?_
  · rw [a4]; exact b5 y a1 a2 a3
  · rw [b4]; exact a5 z b1 b2 b3
theorem dg_0 (k : Nat) : dg 0 k = 0 := by unfold dg; simp
theorem tl_0 (k p : Nat) : tl 0 k p = false := by unfold tl; rw [dg_0]; simp
theorem run_0 (p : Nat) : ∀ k, run 0 p k = 0
  | 0 => rfl
  | k + 1 => by unfold run; rw [tl_0]; rfl
theorem wel_0 (X : PX) (n : Nat) : Wel X n 0 := fun k _ p _ => by
  unfold fitP mayE
  rw [tl_0, run_0]
  rfl
theorem isP_0 (X : PX) (n : Nat) : isP X n 0 := fun k _ => by
  rw [dg_0]
  exact Nat.pow_pos (by omega)
theorem fn_seek {X : PX} {M : MM} (V : VX X) (E : EC X M) {n : Nat} (h1 : 1 ≤ n) (hn : n ≤ 6) : ∃ M' B, Fn 14 mX3_seek [.ref 37, .int (nI n)] M none M' ∧ (∀ j, j ≠ 37 → ¬ (39 ≤ j ∧ j ≤ 63) → M'.1 j = M.1 j) ∧ BM M' B ∧ Best X n B := by
  generalize hM4 : ul (ul (ui (ui M 37 4 (nI n)) 37 5 0) 37 6 0) 37 7 4611686018427387904 = M4
  have o4 : ∀ j, j ≠ 37 → M4.1 j = M.1 j := fun j hj => by rw [← hM4]; show (ui (ui M 37 4 (nI n)) 37 5 0).1 j = _; rw [ui_diff hj, ui_diff hj]
  have h44 : M4.1 37 4 = nI n := by rw [← hM4]; show (ui (ui M 37 4 (nI n)) 37 5 0).1 37 4 = _; rw [ui_f (by decide), ui_at]
  have b4 : BM M4 (4611686018427387904, 0, 0) := by
    rw [← hM4]
    refine ⟨?_, ?_, ?_, Nat.le_refl _, by decide, by decide⟩
    · simp [ul]; rfl
    · simp [ul]; rfl
    · show (ui (ui M 37 4 (nI n)) 37 5 0).1 37 5 = _
      rw [ui_at]
      rfl
  have E4 : EC X M4 := EC.congr (fun j h1 _ => o4 j h1) E V
  obtain ⟨M5, f5, o5, l5, w5⟩ := fn_begin V E4 0
  have r5 : M5.1 37 = M4.1 37 := o5 37 (by omega)
  have E5 : EC X M5 := EC.congr (fun j h1 h2 => o5 j (by omega)) E4 V
  obtain ⟨M7, B, f7, o7, -, b7, g1, g2, g3⟩ := fn_grow V hn n 0 (by omega) 13 (by omega) 0 M5 (4611686018427387904, 0, 0) (by decide) (fun j hj => absurd hj (by omega)) (fun j hj => absurd hj (by omega)) E5 (by rw [r5]; exact h44) w5 (by unfold BM; rw [r5, l5]; exact b4) (Or.inl (by show 0 < _; decide))
  have m1 : ∀ y : Nat, y % 4 ^ 0 = 0 := fun y => by rw [Nat.pow_zero, Nat.mod_one]
  have hall : ∀ y, y < 4 ^ n → isP X n y → Wel X n y → ¬ kl (key X n y) B := fun y a1 a2 a3 => g3 y ⟨a1, m1 y, a2, a3⟩
  refine ⟨M7, B, fn_intro ok_X3_seek (Nat.le_of_ble_eq_true rfl) fun G g gr => ?_, fun j h1 h2 => ?_, b7, ?_, hall⟩
  · refine b_X3_seek_0 g gr (by decide) _ M ?_
    intro Q1 e1 Q2 e2 Q3 e3 Q4 e4
    have : Q4 = M4 := by rw [e4, e3, e2, e1, hM4]
    rw [this]
    exact ⟨M5, f5, M7, f7, rfl, rfl⟩
  · rw [o7 j h1 (by omega), o5 j (by omega), o4 j h1]
  · rcases g2 with rfl | ⟨y, ⟨a1, -, a3, a4⟩, rfl⟩
    · exfalso
      refine hall 0 (Nat.pow_pos (by omega)) (isP_0 X n) (wel_0 X n) (Or.inl ?_)
      have := bT_lt V 0 n hn
      show bT X 0 n < 4611686018427387904
      omega
    · exact ⟨y, a1, a3, a4, rfl⟩

/-! the class: an hour's flow -/
theorem pick64b (x : Int32) (m : Int64) : (if m > x.toInt64 then x.toInt64 else m).toInt32 = (if m ≥ x.toInt64 then x else m.toInt32) := by
  rw [ge_gt]
  split
  · exact to32_64 x
  · rfl
def pmn (S : SS) (W : Nat → Int32) (k : Nat) : Int32 := if W (pA S k) < S 18 k then W (pA S k) else S 18 k
theorem fn_passPump {M : MM} {nd nw np ns w k : Nat} (V : VLd M.1 nd nw np ns) (hw : shp w = (1, 0, 6, [])) (hk : k < np) : Fn 2 mX2_passPump [.ref 1, .int (nI k), .ref w] M (some (.int (pmn M.1 (M.1 w) k))) (uc M w (pst M.1 (M.1 w) k (pmn M.1 (M.1 w) k))) := fn_intro ok_X2_passPump (Nat.le_of_ble_eq_true rfl) fun G g gr => by
  have h6 := V.d6
  have h4 := V.p4
  obtain ⟨a, ha, ea, et⟩ := V.p hk
  have ca : (nI a).toNatClampNeg = a := nI_clamp (by omega)
  have qa : pA M.1 k = a := by unfold pA; rw [ea, ca]
  refine b_X2_passPump_0 g gr (by decide) (nI k) w hw M ⟨vp_in_nI (by omega) (by omega), ?_⟩
  rw [nI_clamp (show k < 2 ^ 31 by omega), ea]
  intro x2 e2 x3 e3
  subst e2; subst e3
  refine ⟨vp_in_nI (by omega) (by omega), _, _, fn_mini _ _ M, ?_⟩
  rw [ca]
  have z : (if M.1 w a < M.1 18 k then M.1 w a else M.1 18 k) = pmn M.1 (M.1 w) k := by unfold pmn; rw [qa]
  rw [z]
  intro M8 e8
  refine ⟨fun c => ⟨rfl, ?_⟩, fun c => ?_⟩
  · unfold pst
    rw [if_pos c, qa, e8, ui_row]
  · rcases et with et | ⟨b, hb, hab, et⟩
    · exact absurd et c
    · rw [et]
      have cb : (nI b).toNatClampNeg = b := nI_clamp (by omega)
      refine ⟨vp_in_nI (by omega) (by omega), ?_⟩
      intro M11 e11
      refine ⟨rfl, ?_⟩
      unfold pst
      rw [if_neg c, et, cb, qa, e11, e8, cb, ui_row, ui_row, uc_at, uc_uc]
      rfl
def smn (S : SS) (W : Nat → Int32) (i k : Nat) : Int32 := if 0 < lev S W (sA S k) - S 30 i then (if (S 24 k).toInt64 * (lev S W (sA S k) - S 30 i).toInt64 ≥ (W (sA S k)).toInt64 then W (sA S k) else ((S 24 k).toInt64 * (lev S W (sA S k) - S 30 i).toInt64).toInt32) else 0
theorem fn_passSluice {M : MM} {nd nw np ns w k i : Nat} (V : VLd M.1 nd nw np ns) (hw : shp w = (1, 0, 6, [])) (hk : k < ns) : Fn 2 mX2_passSluice [.ref 1, .int (nI k), .ref w, .int (M.1 30 i)] M (some (.int (smn M.1 (M.1 w) i k))) (uc M w (sst M.1 (M.1 w) k (smn M.1 (M.1 w) i k))) := fn_intro ok_X2_passSluice (Nat.le_of_ble_eq_true rfl) fun G g gr => by
  have h6 := V.d6
  have h4 := V.s4
  obtain ⟨⟨a, ha, ea⟩, -⟩ := V.s hk
  obtain ⟨A, A1, A2, eA⟩ := V.A ha
  have ca : (nI a).toNatClampNeg = a := nI_clamp (by omega)
  have qa : sA M.1 k = a := by unfold sA; rw [ea, ca]
  refine b_X2_passSluice_0 g gr (by decide) (nI k) w _ hw M ⟨vp_in_nI (by omega) (by omega), ?_⟩
  rw [nI_clamp (show k < 2 ^ 31 by omega), ea]
  intro x2 e2
  subst e2
  refine ⟨_, _, fn_X0_level hw (by omega) A1 A2 eA, ?_⟩
  intro x6 e6
  rw [e6, gt0_64, ca]
  unfold smn sst
  rw [qa]
  refine ⟨fun c => ⟨vp_in_nI (by omega) (by omega), _, _, fn_minl _ _ M, ?_⟩, fun c => ?_⟩
  · intro x12 e12 M13 e13
    rw [pick64b] at e12
    rw [if_pos c, ← e12, e13, ui_row]
    exact ⟨rfl, rfl⟩
  · rw [if_neg c, upd_0, uc_self]
    exact ⟨rfl, rfl⟩
theorem smn_congr {S S' : SS} (h : ∀ k ∈ rowL, S k = S' k) (W : Nat → Int32) (i k : Nat) : smn S W i k = smn S' W i k := by
  unfold smn sA
  rw [lev_congr h, h 23 (by decide), h 24 (by decide), h 30 (by decide)]
theorem pmn_congr {S S' : SS} (h : ∀ k ∈ rowL, S k = S' k) (W : Nat → Int32) (k : Nat) : pmn S W k = pmn S' W k := by
  unfold pmn pA
  rw [h 16 (by decide), h 18 (by decide)]
theorem sF_open {S : SS} {i k : Nat} {W : Nat → Int32} (c : ¬ S 25 k = 0) : sF S i W k = smn S (sW S i W k) i k := by
  unfold sF svm smn
  rw [if_neg c]
theorem pF_on {S : SS} {b k : Nat} {W : Nat → Int32} (c : b.testBit k = true) : pF S b W k = pmn S (pW S b W k) k := by
  unfold pF pvm pmn
  rw [c, if_pos rfl]
def N4 (M : MM) (w fa fb fc : Nat) (f0 f1 f2 f3 : Nat → Int32) : MM := uc (uc (uc (uc M w f0) fa f1) fb f2) fc f3
def Dst (w fa fb fc : Nat) : Prop := (w = 7 ∨ 39 ≤ w ∧ w < 60) ∧ ((fa = 27 ∧ fb = 28 ∧ fc = 29) ∨ (fa = 61 ∧ fb = 62 ∧ fc = 63))
section N4
variable {M : MM} {w fa fb fc : Nat} {f0 f1 f2 f3 : Nat → Int32}
theorem N4_off (M : MM) (f0 f1 f2 f3 : Nat → Int32) {k : Nat} (h : k ≠ w ∧ k ≠ fa ∧ k ≠ fb ∧ k ≠ fc) : (N4 M w fa fb fc f0 f1 f2 f3).1 k = M.1 k := by
  unfold N4
  rw [uc_ne h.2.2.2, uc_ne h.2.2.1, uc_ne h.2.1, uc_ne h.1]
theorem N4_w (D : Dst w fa fb fc) : (N4 M w fa fb fc f0 f1 f2 f3).1 w = f0 := by
  unfold N4
  rw [uc_ne (by unfold Dst at D; omega), uc_ne (by unfold Dst at D; omega), uc_ne (by unfold Dst at D; omega), uc_at]
theorem N4_a (D : Dst w fa fb fc) : (N4 M w fa fb fc f0 f1 f2 f3).1 fa = f1 := by
  unfold N4
  rw [uc_ne (by unfold Dst at D; omega), uc_ne (by unfold Dst at D; omega), uc_at]
theorem N4_b (D : Dst w fa fb fc) : (N4 M w fa fb fc f0 f1 f2 f3).1 fb = f2 := by
  unfold N4
  rw [uc_ne (by unfold Dst at D; omega), uc_at]
theorem N4_c : (N4 M w fa fb fc f0 f1 f2 f3).1 fc = f3 := by
  unfold N4
  rw [uc_at]
theorem N4_uw (D : Dst w fa fb fc) (g : Nat → Int32) : uc (N4 M w fa fb fc f0 f1 f2 f3) w g = N4 M w fa fb fc g f1 f2 f3 := by
  unfold N4
  have h1 : fa ≠ w := by unfold Dst at D; omega
  have h2 : fb ≠ w := by unfold Dst at D; omega
  have h3 : fc ≠ w := by unfold Dst at D; omega
  rw [uc_comm _ h3, uc_comm _ h2, uc_comm _ h1, uc_uc]
theorem N4_ua (D : Dst w fa fb fc) (g : Nat → Int32) : uc (N4 M w fa fb fc f0 f1 f2 f3) fa g = N4 M w fa fb fc f0 g f2 f3 := by
  unfold N4
  have h2 : fb ≠ fa := by unfold Dst at D; omega
  have h3 : fc ≠ fa := by unfold Dst at D; omega
  rw [uc_comm _ h3, uc_comm _ h2, uc_uc]
theorem N4_ub (D : Dst w fa fb fc) (g : Nat → Int32) : uc (N4 M w fa fb fc f0 f1 f2 f3) fb g = N4 M w fa fb fc f0 f1 g f3 := by
  unfold N4
  have h3 : fc ≠ fb := by unfold Dst at D; omega
  rw [uc_comm _ h3, uc_uc]
theorem N4_uc (g : Nat → Int32) : uc (N4 M w fa fb fc f0 f1 f2 f3) fc g = N4 M w fa fb fc f0 f1 f2 g := by
  unfold N4
  rw [uc_uc]
theorem N4_self : N4 M w fa fb fc (M.1 w) (M.1 fa) (M.1 fb) (M.1 fc) = M := by
  unfold N4
  rw [uc_self, uc_self, uc_self, uc_self]
end N4
theorem rowL_le : ∀ k ∈ rowL, k = 3 ∨ k = 4 ∨ k = 5 ∨ k = 6 ∨ (11 ≤ k ∧ k ≤ 25) ∨ k = 30 ∨ k = 31 := by decide
theorem N4_row {M : MM} {w fa fb fc : Nat} {f0 f1 f2 f3 : Nat → Int32} (D : Dst w fa fb fc) : ∀ k ∈ rowL, M.1 k = (N4 M w fa fb fc f0 f1 f2 f3).1 k := fun k hk => by
  have := rowL_le k hk
  rw [N4_off]
  unfold Dst at D
  omega
theorem fn_move {M : MM} {nd nw np ns w fl fa fb fc h b : Nat} {rain : Int32} (V : VLd M.1 nd nw np ns) (z0 : M.1 2 7 = nI nd) (z1 : M.1 10 4 = nI nw) (z2 : M.1 15 7 = nI np) (z3 : M.1 22 3 = nI ns) (hh : h < 2 ^ 31) (hb : b < 16) (D : Dst w fa fb fc)
    (hw : shp w = (1, 0, 6, [])) (hfl : shp fl = (0, 1, 0, [fa + 2, fb + 2, fc + 2])) (hfa : shp fa = (1, 0, 8, [])) (hfb : shp fb = (1, 0, 4, [])) (hfc : shp fc = (1, 0, 4, [])) :
    Fn 3 mX2_move [.ref 1, .ref w, .int rain, .int (nI h), .int (nI b), .ref fl] M none (N4 M w fa fb fc (mvS M.1 nd nw np ns rain (h % 24) b (M.1 w)) (pre nw (wF M.1 (mvR M.1 nd rain (M.1 w))) (M.1 fa)) (pre np (pF M.1 b (mvW M.1 nd nw rain (M.1 w))) (M.1 fb)) (pre ns (sF M.1 (h % 24) (mvP M.1 nd nw np rain b (M.1 w))) (M.1 fc))) := fn_intro ok_X2_move (Nat.le_of_ble_eq_true rfl) fun G g gr => by
  refine b_X2_move_0 g gr (by decide) w rain (nI h) (nI b) fl fa fb fc hw hfl hfa hfb hfc M ?_
  have h6 := V.d6
  have h8 := V.w8
  have hp := V.p4
  have hs := V.s4
  have off : ∀ (f0 f1 f2 f3 : Nat → Int32) (k : Nat), (k = 2 ∨ k = 3 ∨ k = 10 ∨ k = 15 ∨ k = 22 ∨ k = 25 ∨ k = 30) → (N4 M w fa fb fc f0 f1 f2 f3).1 k = M.1 k := fun f0 f1 f2 f3 k hk => N4_off _ _ _ _ _ (by unfold Dst at D; omega)
  have VN : ∀ (f0 f1 f2 f3 : Nat → Int32), VLd (N4 M w fa fb fc f0 f1 f2 f3).1 nd nw np ns := fun f0 f1 f2 f3 => V.congr (N4_row D)
  -- sluices
  have sl : ∀ (F1 F2 : Nat → Int32) (k j : Nat), j + k = ns → ∀ W : Nat → Int32, W = sW M.1 (h % 24) (mvP M.1 nd nw np rain b (M.1 w)) j → F1 = pre nw (wF M.1 (mvR M.1 nd rain (M.1 w))) (M.1 fa) → F2 = pre np (pF M.1 b (mvW M.1 nd nw rain (M.1 w))) (M.1 fb) → At_X2_move_129 G w fl fa fb fc rain (nI h) (nI b) (nI j) (N4 M w fa fb fc W F1 F2 (pre j (sF M.1 (h % 24) (mvP M.1 nd nw np rain b (M.1 w))) (M.1 fc))) := by
    intro F1 F2 k
    induction k with
    | zero =>
      intro j hj W hW h1 h2
      refine b_X2_move_129 g gr (by decide) w fl fa fb fc _ _ _ _ hw hfl hfa hfb hfc _ ⟨fun _ => ⟨rfl, ?_⟩, fun c => ?_⟩
      · rw [hW, h1, h2, show j = ns by omega]; rfl
      · exact absurd (by rw [off _ _ _ _ 22 (by omega), z3]; exact nI_le (by omega) (by omega)) c
    | succ k ih =>
      intro j hj W hW h1 h2
      refine b_X2_move_129 g gr (by decide) w fl fa fb fc _ _ _ _ hw hfl hfa hfb hfc _ ⟨fun c => ?_, fun _ => ⟨vp_in_nI (by omega) (by omega), ?_⟩⟩
      · rw [off _ _ _ _ 22 (by omega), z3, nI_leI (by omega) (by omega)] at c; omega
      · rw [nI_clamp (show j < 2 ^ 31 by omega), off _ _ _ _ 25 (by omega)]
        have nx := ih (j + 1) (by omega)
        refine ⟨fun c M4 e4 x5 e5 => ?_, fun c => ⟨_, _, fn_hourOfDay hh _, vp_in_nI (by omega) (by omega), ?_⟩⟩
        · rw [e4, e5, ui_row, N4_c, N4_uc, nI_1]
          have zz : sF M.1 (h % 24) (mvP M.1 nd nw np rain b (M.1 w)) j = 0 := by unfold sF svm; rw [if_pos c]
          rw [← zz, pre_s]
          refine nx W ?_ h1 h2
          rw [hW]
          have zz2 : svm M.1 (sW M.1 (h % 24) (mvP M.1 nd nw np rain b (M.1 w)) j) (h % 24) j = 0 := zz
          show _ = sst M.1 _ j _
          rw [zz2]
          unfold sst
          rw [upd_0]
        · rw [nI_clamp (show h % 24 < 2 ^ 31 by omega), off _ _ _ _ 30 (by omega)]
          have cl9 := fn_passSluice (i := h % 24) (VN W F1 F2 (pre j (sF M.1 (h % 24) (mvP M.1 nd nw np rain b (M.1 w))) (M.1 fc))) hw (show j < ns by omega)
          rw [off _ _ _ _ 30 (by omega)] at cl9
          refine ⟨_, _, cl9, ?_⟩
          intro M13 e13 x14 e14
          rw [e13, e14, N4_w D, N4_uw D, ui_row, N4_c, N4_uc, nI_1]
          have q1 : smn (N4 M w fa fb fc W F1 F2 (pre j (sF M.1 (h % 24) (mvP M.1 nd nw np rain b (M.1 w))) (M.1 fc))).1 W (h % 24) j = sF M.1 (h % 24) (mvP M.1 nd nw np rain b (M.1 w)) j := by
            rw [← smn_congr (N4_row D), sF_open c, ← hW]
          rw [q1, pre_s]
          refine nx _ ?_ h1 h2
          have q2 : sA (N4 M w fa fb fc W F1 F2 (pre j (sF M.1 (h % 24) (mvP M.1 nd nw np rain b (M.1 w))) (M.1 fc))).1 j = sA M.1 j := by
            unfold sA
            rw [← N4_row D 23 (by decide)]
          unfold sst
          rw [q2, hW]
          rfl
  -- pumps
  have pl : ∀ (F1 : Nat → Int32) (k j : Nat), j + k = np → ∀ W : Nat → Int32, W = pW M.1 b (mvW M.1 nd nw rain (M.1 w)) j → F1 = pre nw (wF M.1 (mvR M.1 nd rain (M.1 w))) (M.1 fa) → At_X2_move_79 G w fl fa fb fc rain (nI h) (nI b) (nI j) (N4 M w fa fb fc W F1 (pre j (pF M.1 b (mvW M.1 nd nw rain (M.1 w))) (M.1 fb)) (M.1 fc)) := by
    intro F1 k
    induction k with
    | zero =>
      intro j hj W hW h1
      refine b_X2_move_79 g gr (by decide) w fl fa fb fc _ _ _ _ hw hfl hfa hfb hfc _ ⟨fun _ => ?_, fun c => ?_⟩
      · have := sl F1 (pre j (pF M.1 b (mvW M.1 nd nw rain (M.1 w))) (M.1 fb)) ns 0 (by omega) W (by rw [hW, show j = np by omega]; rfl) h1 (by rw [show j = np by omega])
        rw [pre_0] at this
        exact this
      · exact absurd (by rw [off _ _ _ _ 15 (by omega), z2]; exact nI_le (by omega) (by omega)) c
    | succ k ih =>
      intro j hj W hW h1
      have nx := ih (j + 1) (by omega)
      have bt := bit_nI b hb j (by omega)
      refine b_X2_move_79 g gr (by decide) w fl fa fb fc _ _ _ _ hw hfl hfa hfb hfc _ ⟨fun c => ?_, fun _ => ⟨fun c => ⟨vp_in_nI (by omega) (by omega), ?_⟩, fun c => ?_⟩⟩
      · rw [off _ _ _ _ 15 (by omega), z2, nI_leI (by omega) (by omega)] at c; omega
      · intro M4 e4 x5 e5
        rw [bt] at c
        have tb : b.testBit j = false := by
          cases hq : b.testBit j with
          | false => rfl
          | true => rw [hq] at c; exact absurd c (by decide)
        rw [e4, e5, ui_row, nI_clamp (show j < 2 ^ 31 by omega), N4_b D, N4_ub D, nI_1]
        have zz : pF M.1 b (mvW M.1 nd nw rain (M.1 w)) j = 0 := by unfold pF pvm; rw [tb]; rfl
        rw [← zz, pre_s]
        refine nx W ?_ h1
        rw [hW]
        have zz2 : pvm M.1 (pW M.1 b (mvW M.1 nd nw rain (M.1 w)) j) b j = 0 := zz
        show _ = pst M.1 _ j _
        rw [zz2, pst_0]
      · rw [bt] at c
        have tb : b.testBit j = true := by
          cases hq : b.testBit j with
          | true => rfl
          | false => rw [hq] at c; exact absurd rfl c
        have cl9 := fn_passPump (VN W F1 (pre j (pF M.1 b (mvW M.1 nd nw rain (M.1 w))) (M.1 fb)) (M.1 fc)) hw (show j < np by omega)
        refine ⟨_, _, cl9, vp_in_nI (by omega) (by omega), ?_⟩
        intro M10 e10 x11 e11
        rw [e10, e11, N4_w D, N4_uw D, ui_row, nI_clamp (show j < 2 ^ 31 by omega), N4_b D, N4_ub D, nI_1]
        have q1 : pmn (N4 M w fa fb fc W F1 (pre j (pF M.1 b (mvW M.1 nd nw rain (M.1 w))) (M.1 fb)) (M.1 fc)).1 W j = pF M.1 b (mvW M.1 nd nw rain (M.1 w)) j := by
          rw [← pmn_congr (N4_row D), pF_on tb, ← hW]
        rw [q1, pre_s, ← pst_congr (N4_row (f0 := W) (f1 := F1) (f2 := pre j (pF M.1 b (mvW M.1 nd nw rain (M.1 w))) (M.1 fb)) (f3 := M.1 fc) D)]
        refine nx _ ?_ h1
        rw [hW]
        rfl
  -- weirs
  have wr : ∀ (k j : Nat), j + k = nw → ∀ W : Nat → Int32, W = wW M.1 (mvR M.1 nd rain (M.1 w)) j → At_X2_move_43 G w fl fa fb fc rain (nI h) (nI b) (nI j) (N4 M w fa fb fc W (pre j (wF M.1 (mvR M.1 nd rain (M.1 w))) (M.1 fa)) (M.1 fb) (M.1 fc)) := by
    intro k
    induction k with
    | zero =>
      intro j hj W hW
      refine b_X2_move_43 g gr (by decide) w fl fa fb fc _ _ _ _ hw hfl hfa hfb hfc _ ⟨fun _ => ?_, fun c => ?_⟩
      · have := pl (pre j (wF M.1 (mvR M.1 nd rain (M.1 w))) (M.1 fa)) np 0 (by omega) W (by rw [hW, show j = nw by omega]; rfl) (by rw [show j = nw by omega])
        rw [pre_0] at this
        exact this
      · exact absurd (by rw [off _ _ _ _ 10 (by omega), z1]; exact nI_le (by omega) (by omega)) c
    | succ k ih =>
      intro j hj W hW
      have nx := ih (j + 1) (by omega)
      refine b_X2_move_43 g gr (by decide) w fl fa fb fc _ _ _ _ hw hfl hfa hfb hfc _ ⟨fun c => ?_, fun _ => ?_⟩
      · rw [off _ _ _ _ 10 (by omega), z1, nI_leI (by omega) (by omega)] at c; omega
      · have cl9 := fn_passWeir (VN W (pre j (wF M.1 (mvR M.1 nd rain (M.1 w))) (M.1 fa)) (M.1 fb) (M.1 fc)) hw (show j < nw by omega)
        refine ⟨_, _, cl9, vp_in_nI (by omega) (by omega), ?_⟩
        intro M10 e10 x11 e11
        rw [e10, e11, N4_w D, N4_uw D, ui_row, nI_clamp (show j < 2 ^ 31 by omega), N4_a D, N4_ua D, nI_1]
        have qa : wA (N4 M w fa fb fc W (pre j (wF M.1 (mvR M.1 nd rain (M.1 w))) (M.1 fa)) (M.1 fb) (M.1 fc)).1 j = wA M.1 j := by
          unfold wA
          rw [← N4_row D 11 (by decide)]
        have qb : wB (N4 M w fa fb fc W (pre j (wF M.1 (mvR M.1 nd rain (M.1 w))) (M.1 fa)) (M.1 fb) (M.1 fc)).1 j = wB M.1 j := by
          unfold wB
          rw [← N4_row D 12 (by decide)]
        rw [qa, qb, ← wvm_congr (N4_row (f0 := W) (f1 := pre j (wF M.1 (mvR M.1 nd rain (M.1 w))) (M.1 fa)) (f2 := M.1 fb) (f3 := M.1 fc) D)]
        have q1 : wvm M.1 W (wA M.1 j) (wB M.1 j) j = wF M.1 (mvR M.1 nd rain (M.1 w)) j := by
          unfold wF
          rw [← hW]
        rw [q1, pre_s, ← q1]
        refine nx _ ?_
        rw [hW]
        rfl
  -- rain
  have rn : ∀ (k j : Nat), j + k = nd → At_X2_move_3 G w fl fa fb fc rain (nI h) (nI b) (nI j) (N4 M w fa fb fc (pre j (rnW M.1 rain (M.1 w)) (M.1 w)) (M.1 fa) (M.1 fb) (M.1 fc)) := by
    intro k
    induction k with
    | zero =>
      intro j hj
      refine b_X2_move_3 g gr (by decide) w fl fa fb fc _ _ _ _ hw hfl hfa hfb hfc _ ⟨fun _ => ?_, fun c => ?_⟩
      · have := wr nw 0 (by omega) (pre j (rnW M.1 rain (M.1 w)) (M.1 w)) (by rw [show j = nd by omega]; rfl)
        rw [pre_0] at this
        exact this
      · exact absurd (by rw [off _ _ _ _ 2 (by omega), z0]; exact nI_le (by omega) (by omega)) c
    | succ k ih =>
      intro j hj
      have nx := ih (j + 1) (by omega)
      refine b_X2_move_3 g gr (by decide) w fl fa fb fc _ _ _ _ hw hfl hfa hfb hfc _ ⟨fun c => ?_, fun _ => ⟨vp_in_nI (by omega) (by omega), ?_⟩⟩
      · rw [off _ _ _ _ 2 (by omega), z0, nI_leI (by omega) (by omega)] at c; omega
      · intro M3 e3 x4 e4
        rw [nI_clamp (show j < 2 ^ 31 by omega)] at e3
        rw [e3, e4, ui_row, N4_w D, N4_uw D, off _ _ _ _ 3 (by omega), nI_1]
        have q : pre j (rnW M.1 rain (M.1 w)) (M.1 w) j + rain * M.1 3 j = rnW M.1 rain (M.1 w) j := by
          unfold pre rnW
          rw [if_neg (by omega)]
        rw [q, pre_s]
        exact nx
  have := rn nd 0 (by omega)
  rw [pre_0, N4_self] at this
  exact this

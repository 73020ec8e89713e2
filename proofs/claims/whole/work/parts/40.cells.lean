/-! sheet, lay, passed, count -/
theorem shp_k {k : Nat} (hk : k < 4) : shp (66 + k) = (1, 0, 60, []) := by
  rcases (show k = 0 ∨ k = 1 ∨ k = 2 ∨ k = 3 by omega) with rfl | rfl | rfl | rfl <;> rfl
theorem fn_fill {w N : Nat} (hw : shp w = (1, 0, N, [])) (hN : N < 2 ^ 30) (v : Int32) (M : MM) : Fn 1 mJ7_fill_53178 [.ref w, .int v] M none (uc M w (pre N (fun _ => v) (M.1 w))) := fn_intro ok_J7_fill_53178 (Nat.le_of_ble_eq_true rfl) fun G g gr => by
  refine b_J7_fill_53178_0 g gr (by decide) w N v hw M ?_
  intro x ex
  rw [ex]
  have loop : ∀ (m i : Nat), i + m = N → At_J7_fill_53178_5 G w v (nI i) (nI N) (uc M w (pre i (fun _ => v) (M.1 w))) := by
    intro m
    induction m with
    | zero =>
      intro i hi
      have : i = N := by omega
      subst this
      exact b_J7_fill_53178_5 g gr (by decide) w i _ _ _ hw _ ⟨fun _ => ⟨rfl, rfl⟩, fun c => absurd (nI_le (by omega) (by omega)) c⟩
    | succ m ih =>
      intro i hi
      refine b_J7_fill_53178_5 g gr (by decide) w N _ _ _ hw _ ⟨fun c => ?_, fun _ => ⟨vp_in_nI (by omega) (by omega), ?_⟩⟩
      · rw [nI_leI (by omega) (by omega)] at c; omega
      · intro Q eQ x ex
        rw [eQ, ex, nI_clamp (show i < 2 ^ 31 by omega), ui_row, uc_at, uc_uc, nI_1]
        have := pre_s i (fun _ => v) (M.1 w)
        rw [this]
        exact ih (i + 1) (by omega)
  have := loop N 0 (by omega)
  rw [pre_0, uc_self] at this
  exact this
def zro (f : Nat → Int32) (k n : Nat) : Nat → Int32 := fun j => if 60 * k ≤ j ∧ j < 60 * k + n then 0 else f j
theorem zro_0 (f : Nat → Int32) (k : Nat) : zro f k 0 = f := by
  funext j
  unfold zro
  rw [if_neg (by omega)]
theorem zro_s (f : Nat → Int32) (k n : Nat) : upd (zro f k n) (60 * k + n) 0 = zro f k (n + 1) := by
  funext j
  by_cases e : j = 60 * k + n
  · subst e
    rw [upd_at]
    unfold zro
    rw [if_pos (by omega)]
  · rw [upd_ne e]
    unfold zro
    by_cases c : 60 * k ≤ j ∧ j < 60 * k + n
    · rw [if_pos c, if_pos (by omega)]
    · rw [if_neg c, if_neg (by omega)]
theorem case_sheet {M : MM} {T : Nat} (I : Inv M T) (a b c : Int32) : ∃ (r : Int32) (M1 M2 : MM), Fn 3 mX9_sheet [.ref 0, .int a, .int b, .int c] M (some (.int r)) M1 ∧ Fn 3 mX10_sheet [.ref 72, .int a, .int b, .int c] M1 (some (.int r)) M2 ∧ Inv M2 T := by
  by_cases bad : wth a 0 3 = 0 ∨ wth b 0 2 = 0 ∨ ¬ c ≤ 60
  · refine ⟨-1, M, M, fn_intro ok_X9_sheet (Nat.le_of_ble_eq_true rfl) fun G g gr => ?_, fn_intro ok_X10_sheet (Nat.le_of_ble_eq_true rfl) fun G g gr => ?_, I⟩
    · refine b_X9_sheet_0 g gr (by decide) a b c M ⟨_, _, fn_X9_isSheet _ _, fun _ => ⟨rfl, rfl⟩, fun n1 => ⟨_, _, fn_X9_isLane _ _, fun _ => ⟨rfl, rfl⟩, fun n2 => ⟨fun n3 => ?_, fun _ => ⟨rfl, rfl⟩⟩⟩⟩
      rcases bad with h | h | h
      · exact absurd h n1
      · exact absurd h n2
      · exact absurd n3 h
    · refine b_X10_sheet_0 g gr (by decide) a b c M ⟨_, _, fn_X10_isSheet _ _ _, fun _ => ⟨rfl, rfl⟩, fun n1 => ⟨fun n3 => ?_, fun _ => ⟨rfl, rfl⟩⟩⟩
      rcases bad with h | h | h
      · exact absurd (by rw [if_pos h]) n1
      · exact absurd (by rw [h]; exact ite_self 0) n1
      · exact absurd n3 h
  · have n1 : ¬ wth a 0 3 = 0 := fun h => bad (Or.inl h)
    have n2 : ¬ wth b 0 2 = 0 := fun h => bad (Or.inr (Or.inl h))
    have n3 : c ≤ 60 := Classical.byContradiction fun h => bad (Or.inr (Or.inr h))
    have n12 : ¬ (if wth a 0 3 = 0 then 0 else wth b 0 2) = 0 := by rw [if_neg n1]; exact n2
    obtain ⟨k, -, hk3, rfl⟩ := toNI (lo := 0) (hi := 3) (by omega) (by omega) n1
    obtain ⟨l, -, hl, rfl⟩ := toNI (lo := 0) (hi := 2) (by omega) (by omega) n2
    have hk : k < 4 := by omega
    have ck : (nI k).toNatClampNeg = k := nI_clamp (by omega)
    by_cases neg : (0 : Int32) ≤ c
    · have hc : ∃ z : Nat, z ≤ 60 ∧ c = nI z := by
        rw [Int32.le_iff_toInt_le, show (0 : Int32).toInt = 0 by decide] at neg
        rw [Int32.le_iff_toInt_le, show (60 : Int32).toInt = 60 by decide] at n3
        exact ⟨c.toInt.toNat, by omega, Int32.toInt_inj.mp (by rw [nI_toInt (by omega)]; omega)⟩
      obtain ⟨z, hz, rfl⟩ := hc
      generalize hC : ui (ui (uc M (66 + k) (pre 60 (fun _ => 0) (M.1 (66 + k)))) 70 k (nI l)) 71 k (nI z) = C
      generalize hD : uc (ui (ui C 104 k (nI l)) 105 k (nI z)) 106 (zro (C.1 106) k 60) = D
      refine ⟨1, C, D, fn_intro ok_X9_sheet (Nat.le_of_ble_eq_true rfl) fun G g gr => ?_, fn_intro ok_X10_sheet (Nat.le_of_ble_eq_true rfl) fun G g gr => ?_, ?_⟩
      · refine b_X9_sheet_0 g gr (by decide) _ _ _ M ⟨_, _, fn_X9_isSheet _ _, fun e => absurd e n1, fun _ => ⟨_, _, fn_X9_isLane _ _, fun e => absurd e n2, fun _ => ⟨fun _ => ⟨fun _ => ⟨C, ?_, rfl, rfl⟩, fun e => absurd neg e⟩, fun e => absurd n3 e⟩⟩⟩
        refine fn_intro ok_X5_clear (Nat.le_of_ble_eq_true rfl) fun G g gr => ?_
        refine b_X5_clear_0 g gr (by decide) _ _ _ M ⟨vp_in_nI hk (by omega), by rw [ck]; exact shp_k hk, _, by rw [ck]; exact fn_fill (shp_k hk) (by omega) 0 M, ?_⟩
        rw [ck]
        intro Q eQ Q2 eQ2
        exact ⟨rfl, by rw [eQ2, eQ, ← hC]⟩
      · refine b_X10_sheet_0 g gr (by decide) _ _ _ C ⟨_, _, fn_X10_isSheet _ _ _, fun e => absurd e n12, fun _ => ⟨fun _ => ⟨fun _ => ⟨vp_in_nI hk (by omega), ?_⟩, fun e => absurd neg e⟩, fun e => absurd n3 e⟩⟩
        rw [ck]
        intro Q eQ Q2 eQ2
        have loop : ∀ (m i : Nat), i + m = 60 → At_X10_sheet_40 G (nI k) (nI l) (nI z) (nI i) (uc Q2 106 (zro (C.1 106) k i)) := by
          intro m
          induction m with
          | zero =>
            intro i hi
            have : i = 60 := by omega
            subst this
            exact b_X10_sheet_40 g gr (by decide) _ _ _ _ _ ⟨fun _ => ⟨rfl, by rw [eQ2, eQ, ← hD]⟩, fun c => absurd (by decide) c⟩
          | succ m ih =>
            intro i hi
            have hlt : ¬ (60 : Int32) ≤ nI i := by rw [show (60 : Int32) = nI 60 from rfl, nI_leI (by omega) (by omega)]; omega
            refine b_X10_sheet_40 g gr (by decide) _ _ _ _ _ ⟨fun c => absurd c hlt, fun _ => ⟨by rw [cell_at hk (by omega)]; exact vp_in_nI (by omega) (by omega), ?_⟩⟩
            rw [cell_at hk (by omega), nI_clamp (show 60 * k + i < 2 ^ 31 by omega)]
            intro Q3 e3 x ex
            rw [e3, ex, ui_row, uc_at, uc_uc, nI_1, zro_s]
            exact ih (i + 1) (by omega)
        have := loop 60 0 (by omega)
        rw [zro_0, show C.1 106 = Q2.1 106 by rw [eQ2, eQ, ui_diff (by decide), ui_diff (by decide)], uc_self] at this
        exact this
      · obtain ⟨nd, nw, np, ns, nwd, h, bb, i1, i2, i3, i4, i5, i6, i7⟩ := id I
        refine inv_cells I (fun q hq => ?_) (fun k' hk' => ?_)
        · rw [← hD, uc_ne (by omega), ui_diff (by omega), ui_diff (by omega), ← hC, ui_diff (by omega), ui_diff (by omega), uc_ne (by omega)]
        · have e71 : D.1 71 = upd (M.1 71) k (nI z) := by rw [← hD, uc_ne (by omega), ui_diff (by omega), ui_diff (by omega), ← hC, ui_same, ui_diff (by omega), uc_ne (by omega)]
          have e70 : D.1 70 = upd (M.1 70) k (nI l) := by rw [← hD, uc_ne (by omega), ui_diff (by omega), ui_diff (by omega), ← hC, ui_diff (by omega), ui_same, uc_ne (by omega)]
          have e104 : D.1 104 = upd (M.1 104) k (nI l) := by rw [← hD, uc_ne (by omega), ui_diff (by omega), ui_same, ← hC, ui_diff (by omega), ui_diff (by omega), uc_ne (by omega)]
          have e105 : D.1 105 = upd (M.1 105) k (nI z) := by rw [← hD, uc_ne (by omega), ui_same, ui_diff (by omega), ← hC, ui_diff (by omega), ui_diff (by omega), uc_ne (by omega)]
          have e106 : D.1 106 = zro (M.1 106) k 60 := by rw [← hD, uc_at, ← hC, ui_diff (by omega), ui_diff (by omega), uc_ne (by omega)]
          have e66 : D.1 (66 + k') = if k' = k then pre 60 (fun _ => 0) (M.1 (66 + k)) else M.1 (66 + k') := by
            rw [← hD, uc_ne (by omega), ui_diff (by omega), ui_diff (by omega), ← hC, ui_diff (by omega), ui_diff (by omega)]
            by_cases e : k' = k
            · subst e; rw [if_pos rfl, uc_at]
            · rw [if_neg e, uc_ne (by omega)]
          rw [e71, e70, e104, e105, e106, e66]
          by_cases e : k' = k
          · subst e
            rw [upd_at, upd_at, upd_at, upd_at, if_pos rfl]
            refine ⟨Or.inr ⟨z, l, hz, by omega, rfl, rfl, rfl, rfl⟩, fun i hi => ?_⟩
            rw [pre_lt hi]
            unfold zro
            rw [if_pos (by omega)]
          · rw [upd_ne e, upd_ne e, upd_ne e, upd_ne e, if_neg e]
            refine ⟨(i5 k' hk').1, fun i hi => ?_⟩
            rw [(i5 k' hk').2 i hi]
            unfold zro
            rw [if_neg (by omega)]
    · refine ⟨-14, M, M, fn_intro ok_X9_sheet (Nat.le_of_ble_eq_true rfl) fun G g gr => ?_, fn_intro ok_X10_sheet (Nat.le_of_ble_eq_true rfl) fun G g gr => ?_, I⟩
      · exact b_X9_sheet_0 g gr (by decide) _ _ _ M ⟨_, _, fn_X9_isSheet _ _, fun e => absurd e n1, fun _ => ⟨_, _, fn_X9_isLane _ _, fun e => absurd e n2, fun _ => ⟨fun _ => ⟨fun e => absurd e neg, fun _ => ⟨rfl, rfl⟩⟩, fun e => absurd n3 e⟩⟩⟩
      · exact b_X10_sheet_0 g gr (by decide) _ _ _ M ⟨_, _, fn_X10_isSheet _ _ _, fun e => absurd e n12, fun _ => ⟨fun _ => ⟨fun e => absurd e neg, fun _ => ⟨rfl, rfl⟩⟩, fun e => absurd n3 e⟩⟩
/-- what a lane keeps -/
def cut (l : Nat) (v : Int32) : Int32 := if l = 0 then v.toInt8.toInt32 else if l = 1 then v.toInt16.toInt32 else v
theorem fn_put {M : MM} {k l i : Nat} (hk : k < 4) (hl : l < 3) (hi : i < 60) (z : M.1 70 k = nI l) (v : Int32) : Fn 1 mX5_put [.ref 64, .int (nI k), .int (nI i), .int v] M none (ui M (66 + k) i (cut l v)) := fn_intro ok_X5_put (Nat.le_of_ble_eq_true rfl) fun G g gr => by
  have ck : (nI k).toNatClampNeg = k := nI_clamp (by omega)
  have ci : (nI i).toNatClampNeg = i := nI_clamp (by omega)
  have iv : vp_in (nI i) 60 := vp_in_nI (by omega) (by omega)
  refine b_X5_put_0 g gr (by decide) _ _ v M ⟨vp_in_nI hk (by omega), by rw [ck]; exact shp_k hk, ?_⟩
  rw [ck, ci, z]
  unfold cut
  rcases (show l = 0 ∨ l = 1 ∨ l = 2 by omega) with rfl | rfl | rfl
  · exact ⟨fun e => absurd rfl e, fun _ => ⟨iv, fun Q e => ⟨rfl, by rw [e]; rfl⟩⟩⟩
  · exact ⟨fun _ => ⟨fun e => absurd rfl e, fun _ => ⟨iv, fun Q e => ⟨rfl, by rw [e]; rfl⟩⟩⟩, fun e => absurd e (by decide)⟩
  · exact ⟨fun _ => ⟨fun _ => ⟨iv, fun Q e => ⟨rfl, by rw [e]; rfl⟩⟩, fun e => absurd e (by decide)⟩, fun e => absurd e (by decide)⟩
theorem case_lay {M : MM} {T : Nat} (I : Inv M T) (a f v : Int32) : ∃ (r : Int32) (M1 M2 : MM), Fn 3 mX9_lay [.ref 0, .int a, .int f, .int v] M (some (.int r)) M1 ∧ Fn 3 mX10_lay [.ref 72, .int a, .int f, .int v] M1 (some (.int r)) M2 ∧ Inv M2 T := by
  obtain ⟨nd, nw, np, ns, nwd, h, bb, i1, i2, i3, i4, i5, i6, i7⟩ := id I
  by_cases bad : wth a 0 3 = 0
  · refine ⟨-1, M, M, fn_intro ok_X9_lay (Nat.le_of_ble_eq_true rfl) fun G g gr => ?_, fn_intro ok_X10_lay (Nat.le_of_ble_eq_true rfl) fun G g gr => ?_, I⟩
    · exact b_X9_lay_0 g gr (by decide) a f v M ⟨_, _, fn_X9_isSheet _ _, fun c => absurd bad c, fun _ => ⟨rfl, rfl⟩⟩
    · exact b_X10_lay_0 g gr (by decide) a f v M ⟨_, _, fn_X10_isSheet _ _ _, fun c => absurd (by rw [if_pos bad]) c, fun _ => ⟨rfl, rfl⟩⟩
  · have n1 : ¬ (if wth a 0 3 = 0 then 0 else wth 0 0 2) = 0 := by rw [if_neg bad]; decide
    obtain ⟨k, -, hk3, rfl⟩ := toNI (lo := 0) (hi := 3) (by omega) (by omega) bad
    have hk : k < 4 := by omega
    have ck : (nI k).toNatClampNeg = k := nI_clamp (by omega)
    rcases shv_of i5 hk with ⟨e1, e2⟩ | ⟨z, l, SV⟩
    · refine ⟨-11, M, M, fn_intro ok_X9_lay (Nat.le_of_ble_eq_true rfl) fun G g gr => ?_, fn_intro ok_X10_lay (Nat.le_of_ble_eq_true rfl) fun G g gr => ?_, I⟩
      · refine b_X9_lay_0 g gr (by decide) _ f v M ⟨_, _, fn_X9_isSheet _ _, fun _ => ⟨_, _, fn_isNothing hk, ?_⟩, fun c => absurd c bad⟩
        rw [if_pos e1]
        exact ⟨fun c => absurd c (by decide), fun _ => ⟨rfl, rfl⟩⟩
      · refine b_X10_lay_0 g gr (by decide) _ f v M ⟨_, _, fn_X10_isSheet _ _ _, fun _ => ⟨vp_in_nI hk (by omega), ?_⟩, fun c => absurd c n1⟩
        rw [ck, e2]
        exact ⟨fun c => absurd rfl c, fun _ => ⟨rfl, rfl⟩⟩
    · obtain ⟨q1, q2, q3, q4, q5, q6, q7⟩ := id SV
      have hin : ∀ N : MM, N.1 105 k = nI z → Fn 1 mX10_in [.long f.toInt64, .long 0, .long (N.1 105 k - 1).toInt64] N (some (.int (hasV (nI z) f))) N := fun N hN => fis (by omega) hN f N
      rcases hasV_cases (n := z) (by omega) f with no | ⟨i, hi, rfl⟩
      · have nc : hasC (nI z) f = 0 := by
          unfold hasC
          by_cases c1 : f < 0
          · rw [if_pos c1]
          · rw [if_neg c1]
            by_cases c2 : nI z ≤ f
            · rw [if_pos c2]
            · exfalso
              obtain ⟨j, hj, rfl⟩ := nI_of c1
              rw [nI_leI (by omega) (by omega)] at c2
              rw [hasV_in (by omega) (by omega)] at no
              exact absurd no (by decide)
        refine ⟨-12, M, M, fn_intro ok_X9_lay (Nat.le_of_ble_eq_true rfl) fun G g gr => ?_, fn_intro ok_X10_lay (Nat.le_of_ble_eq_true rfl) fun G g gr => ?_, I⟩
        · refine b_X9_lay_0 g gr (by decide) _ f v M ⟨_, _, fn_X9_isSheet _ _, fun _ => ⟨_, _, fn_isNothing hk, ?_⟩, fun c => absurd c bad⟩
          rw [q3, if_neg (nI_m1 z q1)]
          refine ⟨fun _ => ⟨_, _, fn_hasCell hk f, ?_⟩, fun c => absurd rfl c⟩
          rw [q3, nc]
          exact ⟨fun c => absurd rfl c, fun _ => ⟨rfl, rfl⟩⟩
        · refine b_X10_lay_0 g gr (by decide) _ f v M ⟨_, _, fn_X10_isSheet _ _ _, fun _ => ⟨vp_in_nI hk (by omega), ?_⟩, fun c => absurd c n1⟩
          rw [ck]
          refine ⟨fun _ => ⟨_, _, hin M q4, fun c => absurd no c, fun _ => ⟨rfl, rfl⟩⟩, fun c => absurd c (by rw [q6]; exact nI_m4 l q2)⟩
      · have yes : ¬ hasV (nI z) (nI i) = 0 := by rw [hasV_in hi (by omega)]; decide
        have ci : (nI i).toNatClampNeg = i := nI_clamp (by omega)
        generalize hC : ui M (66 + k) i (cut l v) = C
        have e104 : C.1 104 = M.1 104 := by rw [← hC, ui_diff (by omega)]
        have e105 : C.1 105 = M.1 105 := by rw [← hC, ui_diff (by omega)]
        refine ⟨1, C, ui C 106 (60 * k + i) (cut l v), fn_intro ok_X9_lay (Nat.le_of_ble_eq_true rfl) fun G g gr => ?_, fn_intro ok_X10_lay (Nat.le_of_ble_eq_true rfl) fun G g gr => ?_, ?_⟩
        · refine b_X9_lay_0 g gr (by decide) _ _ v M ⟨_, _, fn_X9_isSheet _ _, fun _ => ⟨_, _, fn_isNothing hk, ?_⟩, fun c => absurd c bad⟩
          rw [q3, if_neg (nI_m1 z q1)]
          refine ⟨fun _ => ⟨_, _, fn_hasCell hk _, ?_⟩, fun c => absurd rfl c⟩
          rw [q3, hasC_in q1 hi]
          exact ⟨fun _ => ⟨C, by rw [← hC]; exact fn_put hk q2 (by omega) q5 v, rfl, rfl⟩, fun c => absurd c (by decide)⟩
        · refine b_X10_lay_0 g gr (by decide) _ _ v C ⟨_, _, fn_X10_isSheet _ _ _, fun _ => ⟨vp_in_nI hk (by omega), ?_⟩, fun c => absurd c n1⟩
          rw [ck]
          refine ⟨fun _ => ⟨_, _, hin C (by rw [e105]; exact q4), fun _ => ?_, fun c => absurd c yes⟩, fun c => absurd c (by rw [e104, q6]; exact nI_m4 l q2)⟩
          have ix : vp_in (60 * nI k + nI i) 240 := by rw [cell_at hk (by omega)]; exact vp_in_nI (by omega) (by omega)
          rw [cell_at hk (by omega)] at ix ⊢
          rw [nI_clamp (show 60 * k + i < 2 ^ 31 by omega), e104, q6]
          unfold cut
          rcases (show l = 0 ∨ l = 1 ∨ l = 2 by omega) with rfl | rfl | rfl
          · exact ⟨fun e => absurd rfl e, fun _ => ⟨ix, fun Q e => ⟨rfl, by rw [e]; rfl⟩⟩⟩
          · exact ⟨fun _ => ⟨fun e => absurd rfl e, fun _ => ⟨ix, fun Q e => ⟨rfl, by rw [e]; rfl⟩⟩⟩, fun e => absurd e (by decide)⟩
          · exact ⟨fun _ => ⟨fun _ => ⟨ix, fun Q e => ⟨rfl, by rw [e]; rfl⟩⟩, fun e => absurd e (by decide)⟩, fun e => absurd e (by decide)⟩
        · refine inv_cells I (fun q hq => ?_) (fun k' hk' => ?_)
          · rw [ui_diff (by omega), ← hC, ui_diff (by omega)]
          · have ho : ∀ q, q ≠ 106 → q ≠ 66 + k → (ui C 106 (60 * k + i) (cut l v)).1 q = M.1 q := fun q c1 c2 => by rw [ui_diff c1, ← hC, ui_diff c2]
            have h106 : (ui C 106 (60 * k + i) (cut l v)).1 106 = upd (M.1 106) (60 * k + i) (cut l v) := by rw [ui_same, ← hC, ui_diff (by omega)]
            rw [ho 71 (by omega) (by omega), ho 104 (by omega) (by omega), ho 105 (by omega) (by omega), ho 70 (by omega) (by omega), h106]
            refine ⟨(i5 k' hk').1, fun j hj => ?_⟩
            by_cases e : k' = k
            · subst e
              rw [ui_diff (by omega), ← hC, ui_same]
              by_cases e2 : j = i
              · subst e2; rw [upd_at, upd_at]
              · rw [upd_ne e2, upd_ne (by omega)]
                exact (i5 k' hk').2 j hj
            · rw [ho _ (by omega) (by omega), upd_ne (by omega)]
              exact (i5 k' hk').2 j hj

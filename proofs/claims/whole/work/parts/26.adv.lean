/-! the class: a step -/
def pcn (b : Nat) : Nat := (if b.testBit 0 then 1 else 0) + (if b.testBit 1 then 1 else 0) + (if b.testBit 2 then 1 else 0) + (if b.testBit 3 then 1 else 0)
def sh1 (x s : Int32) : Int32 := (x.toUInt32 >>> (s.toUInt32 &&& Int32.toUInt32 31)).toInt32
def bcv (a : Int32) : Int32 :=
  let x1 := a - (sh1 a 1 &&& 1431655765)
  let x2 := (x1 &&& 858993459) + (sh1 x1 2 &&& 858993459)
  let x3 := (x2 + sh1 x2 4) &&& 252645135
  let x4 := x3 + sh1 x3 8
  let x5 := x4 + sh1 x4 16
  x5 &&& 63
theorem bcv_ok : ∀ b, b < 16 → bcv (nI b) = nI (pcn b) := by decide +kernel
theorem fn_bitCount {M : MM} {b : Nat} (hb : b < 16) : Fn 1 mJ6_bitCount_0f7a4 [.int (nI b)] M (some (.int (nI (pcn b)))) M := fn_intro ok_J6_bitCount_0f7a4 (Nat.le_of_ble_eq_true rfl) fun G g gr => by
  refine b_J6_bitCount_0f7a4_0 g gr (by decide) _ M ?_
  intro x1 e1 x2 e2 x3 e3 x4 e4 x5 e5
  refine ⟨?_, rfl⟩
  rw [← bcv_ok b hb, e5, e4, e3, e2, e1]
  rfl
theorem fn_cost {M : MM} {b h : Nat} (hb : b < 16) (hh : h < 2 ^ 31) : Fn 3 mX2_cost [.ref 1, .int (nI b), .int (nI h)] M (some (.int (M.1 31 (h % 24) * nI (pcn b)))) M := fn_intro ok_X2_cost (Nat.le_of_ble_eq_true rfl) fun G g gr => by
  refine b_X2_cost_0 g gr (by decide) _ _ M ⟨_, _, fn_hourOfDay hh M, vp_in_nI (by omega) (by omega), _, _, fn_bitCount hb, ?_⟩
  rw [nI_clamp (show h % 24 < 2 ^ 31 by omega)]
  exact ⟨rfl, rfl⟩
def oP (S : SS) (F O : Nat → Int32) : Nat → (Nat → Int32)
  | 0 => O
  | k + 1 => if S 17 k = -4 then upd (oP S F O k) (pA S k) (oP S F O k (pA S k) + F k) else oP S F O k
def oS (S : SS) (F O : Nat → Int32) : Nat → (Nat → Int32)
  | 0 => O
  | k + 1 => upd (oS S F O k) (sA S k) (oS S F O k (sA S k) + F k)
theorem oP_congr {S S' : SS} (h : ∀ k ∈ rowL, S k = S' k) (F O : Nat → Int32) : ∀ k, oP S F O k = oP S' F O k
  | 0 => rfl
  | k + 1 => by
    unfold oP pA
    rw [oP_congr h F O k, h 16 (by decide), h 17 (by decide)]
theorem oS_congr {S S' : SS} (h : ∀ k ∈ rowL, S k = S' k) (F O : Nat → Int32) : ∀ k, oS S F O k = oS S' F O k
  | 0 => rfl
  | k + 1 => by
    unfold oS sA
    rw [oS_congr h F O k, h 23 (by decide)]
theorem fn_drain {M : MM} {nd nw np ns : Nat} (V : VLd M.1 nd nw np ns) (z2 : M.1 15 7 = nI np) (z3 : M.1 22 3 = nI ns) : Fn 1 mX2_drain [.ref 1] M none (uc M 9 (oS M.1 (M.1 29) (oP M.1 (M.1 28) (M.1 9) np) ns)) := fn_intro ok_X2_drain (Nat.le_of_ble_eq_true rfl) fun G g gr => by
  refine b_X2_drain_0 g gr (by decide) M ?_
  have h6 := V.d6
  have hp := V.p4
  have hs := V.s4
  have sl : ∀ (k j : Nat), j + k = ns → At_X2_drain_64 G (nI j) (uc M 9 (oS M.1 (M.1 29) (oP M.1 (M.1 28) (M.1 9) np) j)) := by
    intro k
    induction k with
    | zero =>
      intro j hj
      refine b_X2_drain_64 g gr (by decide) _ _ ⟨fun _ => ⟨rfl, by rw [show j = ns by omega]⟩, fun c => ?_⟩
      exact absurd (by rw [uc_ne (by decide), z3]; exact nI_le (by omega) (by omega)) c
    | succ k ih =>
      intro j hj
      obtain ⟨⟨a, ha, ea⟩, -⟩ := V.s (show j < ns by omega)
      have ca : (nI a).toNatClampNeg = a := nI_clamp (by omega)
      refine b_X2_drain_64 g gr (by decide) _ _ ⟨fun c => ?_, fun _ => ⟨vp_in_nI (by omega) (by omega), ?_⟩⟩
      · rw [uc_ne (by decide), z3, nI_leI (by omega) (by omega)] at c; omega
      · rw [nI_clamp (show j < 2 ^ 31 by omega), uc_ne (show 23 ≠ 9 by decide), uc_ne (show 29 ≠ 9 by decide), uc_at, ea, ca]
        refine ⟨vp_in_nI (by omega) (by omega), ?_⟩
        intro M4 e4 x5 e5
        rw [e4, e5, ui_row, uc_at, uc_uc, nI_1]
        have := ih (j + 1) (by omega)
        unfold oS at this
        rw [show sA M.1 j = a by unfold sA; rw [ea, ca]] at this
        exact this
  have pl : ∀ (k j : Nat), j + k = np → At_X2_drain_2 G (nI j) (uc M 9 (oP M.1 (M.1 28) (M.1 9) j)) := by
    intro k
    induction k with
    | zero =>
      intro j hj
      refine b_X2_drain_2 g gr (by decide) _ _ ⟨fun _ => ?_, fun c => ?_⟩
      · have := sl ns 0 (by omega)
        rw [show j = np by omega]
        exact this
      · exact absurd (by rw [uc_ne (by decide), z2]; exact nI_le (by omega) (by omega)) c
    | succ k ih =>
      intro j hj
      have nx := ih (j + 1) (by omega)
      unfold oP at nx
      obtain ⟨a, ha, ea, -⟩ := V.p (show j < np by omega)
      have ca : (nI a).toNatClampNeg = a := nI_clamp (by omega)
      rw [show pA M.1 j = a by unfold pA; rw [ea, ca]] at nx
      refine b_X2_drain_2 g gr (by decide) _ _ ⟨fun c => ?_, fun _ => ⟨vp_in_nI (by omega) (by omega), ?_⟩⟩
      · rw [uc_ne (by decide), z2, nI_leI (by omega) (by omega)] at c; omega
      · rw [nI_clamp (show j < 2 ^ 31 by omega), uc_ne (show 16 ≠ 9 by decide), uc_ne (show 17 ≠ 9 by decide), uc_ne (show 28 ≠ 9 by decide), uc_at, ea, ca]
        refine ⟨fun c x4 e4 => ?_, fun c => ⟨vp_in_nI (by omega) (by omega), ?_⟩⟩
        · rw [if_neg c] at nx
          rw [e4, nI_1]
          exact nx
        · intro M6 e6 x7 e7
          rw [if_pos c] at nx
          rw [e6, e7, ui_row, uc_at, uc_uc, nI_1]
          exact nx
  have := pl np 0 (by omega)
  have e9 : uc M 9 (oP M.1 (M.1 28) (M.1 9) 0) = M := uc_self M 9
  rw [e9] at this
  exact this
/-- the memory behind a step of the class -/
def advM (M : MM) (nd nw np ns h b : Nat) (rain : Int32) : MM :=
  ui (ui (uc (uc (N4 (ui M 15 6 (nI b)) 7 27 28 29 (mvS M.1 nd nw np ns rain (h % 24) b (M.1 7)) (pre nw (wF M.1 (mvR M.1 nd rain (M.1 7))) (M.1 27)) (pre np (pF M.1 b (mvW M.1 nd nw rain (M.1 7))) (M.1 28)) (pre ns (sF M.1 (h % 24) (mvP M.1 nd nw np rain b (M.1 7))) (M.1 29))) 8 (pre nd (fun d => M.1 8 d + rain * M.1 3 d) (M.1 8)))
    9 (oS M.1 (pre ns (sF M.1 (h % 24) (mvP M.1 nd nw np rain b (M.1 7))) (M.1 29)) (oP M.1 (pre np (pF M.1 b (mvW M.1 nd nw rain (M.1 7))) (M.1 28)) (M.1 9) np) ns)) 1 8 (M.1 1 8 + M.1 31 (h % 24) * nI (pcn b))) 1 7 (nI (h + 1))
theorem ui_ne {M : MM} {k j a : Nat} {v : Int32} (h : a ≠ k) : (ui M k j v).1 a = M.1 a := by funext b; simp [ui, h]
theorem ui_f {M : MM} {k j i : Nat} {v : Int32} (h : i ≠ j) : (ui M k j v).1 k i = M.1 k i := by simp [ui, h]
theorem ui_at {M : MM} {k j : Nat} {v : Int32} : (ui M k j v).1 k j = v := by simp [ui]
theorem ui_rowL {M : MM} {k j : Nat} {v : Int32} (hk : k = 15 ∨ k = 1 ∨ k = 2 ∨ k = 37 ∨ k = 72) : ∀ a ∈ rowL, M.1 a = (ui M k j v).1 a := fun a ha => by
  have h1 : ∀ a ∈ rowL, ¬ (a = 15 ∨ a = 1 ∨ a = 2 ∨ a = 37 ∨ a = 72) := by decide
  rw [ui_ne (fun e => h1 a ha (by rw [e]; exact hk))]
theorem uc_rowL {M : MM} {k : Nat} {f : Nat → Int32} (hk : k = 7 ∨ k = 8 ∨ k = 9 ∨ 26 ≤ k ∧ k ≤ 29 ∨ 32 ≤ k) : ∀ a ∈ rowL, M.1 a = (uc M k f).1 a := fun a ha => by
  have h1 := rowL_le a ha
  rw [uc_ne (by omega)]
theorem fn_advance {M : MM} {nd nw np ns h b : Nat} {rain : Int32} (V : VLd M.1 nd nw np ns) (z0 : M.1 2 7 = nI nd) (z1 : M.1 10 4 = nI nw) (z2 : M.1 15 7 = nI np) (z3 : M.1 22 3 = nI ns) (hh : h < 2 ^ 30) (zh : M.1 1 7 = nI h) (hb : b < 16) (zb : M.1 15 6 = nI b) :
    Fn 5 mX2_advance [.ref 1, .int rain] M (some (.int (alm M.1 nd (mvS M.1 nd nw np ns rain (h % 24) (awk M.1 h b np) (M.1 7))))) (advM M nd nw np ns h (awk M.1 h b np) rain) := fn_intro ok_X2_advance (Nat.le_of_ble_eq_true rfl) fun G g gr => by
  have h6 := V.d6
  have hp := V.p4
  have ha16 := awk_lt M.1 h hb np hp
  generalize hb' : awk M.1 h b np = b' at gr ha16
  refine b_X2_advance_0 g gr (by decide) rain M ?_
  rw [zb, zh]
  refine ⟨_, _, fn_awake hp z2 hb (by omega), ?_⟩
  rw [hb']
  intro M4 e4
  have r4 : ∀ a ∈ rowL, M.1 a = M4.1 a := by rw [e4]; exact ui_rowL (by omega)
  have V4 : VLd M4.1 nd nw np ns := V.congr r4
  have q : ∀ a : Nat, a ≠ 15 → M4.1 a = M.1 a := fun a h9 => by rw [e4]; exact ui_ne h9
  have hmv := fn_move (M := M4) (w := 7) (fl := 26) (fa := 27) (fb := 28) (fc := 29) (h := h) (b := b') (rain := rain) V4 (by rw [q 2 (by decide)]; exact z0) (by rw [q 10 (by decide)]; exact z1) (by rw [e4, ui_f (by decide)]; exact z2) (by rw [q 22 (by decide)]; exact z3) (by omega) ha16 (by unfold Dst; omega) sh_7 sh_26 sh_27 sh_28 sh_29
  rw [← mvS_congr r4, ← mvP_congr r4, ← mvW_congr r4, ← mvR_congr r4, show wF M4.1 (mvR M.1 nd rain (M4.1 7)) = wF M.1 (mvR M.1 nd rain (M4.1 7)) from funext fun k => (wF_congr r4 _ k).symm, show pF M4.1 b' (mvW M.1 nd nw rain (M4.1 7)) = pF M.1 b' (mvW M.1 nd nw rain (M4.1 7)) from funext fun k => (pF_congr r4 _ _ k).symm, show sF M4.1 (h % 24) (mvP M.1 nd nw np rain b' (M4.1 7)) = sF M.1 (h % 24) (mvP M.1 nd nw np rain b' (M4.1 7)) from funext fun k => (sF_congr r4 _ _ k).symm, q 7 (by decide), q 27 (by decide), q 28 (by decide), q 29 (by decide)] at hmv
  generalize hF1 : pre nw (wF M.1 (mvR M.1 nd rain (M.1 7))) (M.1 27) = F1 at hmv
  generalize hF2 : pre np (pF M.1 b' (mvW M.1 nd nw rain (M.1 7))) (M.1 28) = F2 at hmv
  generalize hF3 : pre ns (sF M.1 (h % 24) (mvP M.1 nd nw np rain b' (M.1 7))) (M.1 29) = F3 at hmv
  generalize hW : mvS M.1 nd nw np ns rain (h % 24) b' (M.1 7) = W at hmv gr
  have e17 : M4.1 1 7 = nI h := by rw [q 1 (by decide)]; exact zh
  have e156 : M4.1 15 6 = nI b' := by rw [e4]; exact ui_at
  refine ⟨_, by rw [e17, e156]; exact hmv, ?_⟩
  have D7 : Dst 7 27 28 29 := by unfold Dst; omega
  -- rained
  have offN : ∀ a : Nat, a ≠ 7 ∧ a ≠ 27 ∧ a ≠ 28 ∧ a ≠ 29 → (N4 M4 7 27 28 29 W F1 F2 F3).1 a = M4.1 a := fun a h9 => N4_off M4 W F1 F2 F3 h9
  have loop : ∀ (k j : Nat), j + k = nd → At_X2_advance_54 G rain (nI j) (uc (N4 M4 7 27 28 29 W F1 F2 F3) 8 (pre j (fun d => M.1 8 d + rain * M.1 3 d) (M.1 8))) := by
    intro k
    induction k with
    | zero =>
      intro j hj
      refine b_X2_advance_54 g gr (by decide) _ _ _ ⟨fun _ => ?_, fun c => ?_⟩
      · have hjn : j = nd := by omega
        subst hjn
        generalize hM5 : uc (N4 M4 7 27 28 29 W F1 F2 F3) 8 (pre j (fun d => M.1 8 d + rain * M.1 3 d) (M.1 8)) = M5
        have r5 : ∀ a ∈ rowL, M.1 a = M5.1 a := fun a ha => by
          rw [r4 a ha, N4_row D7 a ha, ← hM5]
          exact uc_rowL (by omega) a ha
        have q5 : ∀ a : Nat, a ≠ 7 ∧ a ≠ 8 ∧ a ≠ 27 ∧ a ≠ 28 ∧ a ≠ 29 → M5.1 a = M4.1 a := fun a h9 => by rw [← hM5, uc_ne h9.2.1]; exact offN a ⟨h9.1, h9.2.2.1, h9.2.2.2.1, h9.2.2.2.2⟩
        have V5 : VLd M5.1 j nw np ns := V.congr r5
        have f28 : M5.1 28 = F2 := by rw [← hM5, uc_ne (by decide)]; exact N4_b D7
        have f29 : M5.1 29 = F3 := by rw [← hM5, uc_ne (by decide)]; exact N4_c
        have f9 : M5.1 9 = M.1 9 := by rw [q5 9 (by decide), q 9 (by decide)]
        have s15 : M5.1 15 = M4.1 15 := q5 15 (by decide)
        have hdr := fn_drain V5 (by rw [s15, e4, ui_f (by decide)]; exact z2) (by rw [q5 22 (by decide), q 22 (by decide)]; exact z3)
        rw [f28, f29, f9, ← oP_congr r5, ← oS_congr r5] at hdr
        refine ⟨_, hdr, ?_⟩
        generalize hM6 : uc M5 9 (oS M.1 F3 (oP M.1 F2 (M.1 9) np) ns) = M6
        have q6 : ∀ a : Nat, a ≠ 9 → M6.1 a = M5.1 a := fun a h9 => by rw [← hM6]; exact uc_ne h9
        have e6a : M6.1 15 6 = nI b' := by rw [q6 15 (by decide), s15]; exact e156
        have e6b : M6.1 1 7 = nI h := by rw [q6 1 (by decide), q5 1 (by decide)]; exact e17
        have e6c : M6.1 1 8 = M.1 1 8 := by rw [q6 1 (by decide), q5 1 (by decide), q 1 (by decide)]
        have e31 : M6.1 31 = M.1 31 := by rw [q6 31 (by decide), q5 31 (by decide), q 31 (by decide)]
        rw [e6a, e6b]
        have hco := fn_cost (M := M6) ha16 (show h < 2 ^ 31 by omega)
        rw [e31] at hco
        refine ⟨_, _, hco, ?_⟩
        intro M7 e7 M8 e8
        have e77 : M7.1 1 7 = nI h := by rw [e7, ui_f (by decide)]; exact e6b
        rw [e77, nI_1, e7, e6c] at e8
        have r8 : ∀ a ∈ rowL, M.1 a = M8.1 a := fun a ha => by
          rw [r5 a ha, e8, ← ui_rowL (by omega) a ha, ← ui_rowL (by omega) a ha, ← hM6]
          exact uc_rowL (by omega) a ha
        have f7 : M8.1 7 = W := by
          rw [e8, ui_ne (by decide), ui_ne (by decide), q6 7 (by decide), ← hM5, uc_ne (by decide)]
          exact N4_w D7
        have f2 : M8.1 2 = M.1 2 := by rw [e8, ui_ne (by decide), ui_ne (by decide), q6 2 (by decide), q5 2 (by decide), q 2 (by decide)]
        have hal := fn_X0_alarms (M := M8) (V.congr r8) (by rw [f2]; exact z0)
        rw [f7] at hal
        refine ⟨_, _, hal, ?_, ?_⟩
        · unfold alm
          rw [show (fun d => if brc M8.1 W d ≤ 0 then (0 : Int32) else 1) = (fun d => if brc M.1 W d ≤ 0 then (0 : Int32) else 1) from funext fun d => by rw [brc_congr r8]]
        · rw [e8, ← hM6, ← hM5, e4]
          unfold advM
          rw [hW, hF1, hF2, hF3]
      · exact absurd (by rw [uc_ne (by decide), offN 2 (by decide), q 2 (by decide), z0]; exact nI_le (by omega) (by omega)) c
    | succ k ih =>
      intro j hj
      have nx := ih (j + 1) (by omega)
      refine b_X2_advance_54 g gr (by decide) _ _ _ ⟨fun c => ?_, fun _ => ⟨vp_in_nI (by omega) (by omega), ?_⟩⟩
      · rw [uc_ne (by decide), offN 2 (by decide), q 2 (by decide), z0, nI_leI (by omega) (by omega)] at c; omega
      · intro M13 e13 x14 e14
        rw [nI_clamp (show j < 2 ^ 31 by omega), uc_at, uc_ne (show 3 ≠ 8 by decide), offN 3 (by decide), q 3 (by decide)] at e13
        rw [e13, e14, ui_row, uc_at, uc_uc, nI_1]
        have e9 : pre j (fun d => M.1 8 d + rain * M.1 3 d) (M.1 8) j = M.1 8 j := by unfold pre; rw [if_neg (by omega)]
        rw [e9]
        have := pre_s j (fun d => M.1 8 d + rain * M.1 3 d) (M.1 8)
        rw [this]
        exact nx
  have := loop nd 0 (by omega)
  rw [pre_0, show uc (N4 M4 7 27 28 29 W F1 F2 F3) 8 (M.1 8) = N4 M4 7 27 28 29 W F1 F2 F3 by
    have e9 : (N4 M4 7 27 28 29 W F1 F2 F3).1 8 = M.1 8 := by rw [offN 8 (by decide), q 8 (by decide)]
    rw [← e9, uc_self]] at this
  exact this

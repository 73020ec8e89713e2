/-! class and model side by side: their rows from two memories -/
def mrg (C D : MM) : MM := (fun k => if k < 72 then C.1 k else D.1 k, D.2)
theorem mrg_lo {C D : MM} {k : Nat} (h : k < 72) : (mrg C D).1 k = C.1 k := by
  unfold mrg
  exact if_pos h
theorem mrg_hi {C D : MM} {k : Nat} (h : 72 ≤ k) : (mrg C D).1 k = D.1 k := by
  unfold mrg
  exact if_neg (by omega)
theorem Inv.c1 {M M' : MM} {T : Nat} (h : M'.1 = M.1) (I : Inv M T) : Inv M' T := by
  obtain ⟨f, l⟩ := M
  obtain ⟨f', l'⟩ := M'
  have e : f' = f := h
  subst e
  exact I
theorem mrg_self {C D : MM} (h : ∀ k, k < 72 → D.1 k = C.1 k) : (mrg C D).1 = D.1 := by
  funext k
  by_cases e : k < 72
  · rw [mrg_lo e, h k e]
  · rw [mrg_hi (by omega)]
theorem mrg_diag {M C : MM} (h : ∀ k, 72 ≤ k → C.1 k = M.1 k) : (mrg M C).1 = M.1 := by
  funext k
  by_cases e : k < 72
  · rw [mrg_lo e]
  · rw [mrg_hi (by omega), h k (by omega)]
theorem oP_F {S : SS} {F F' : Nat → Int32} (O : Nat → Int32) : ∀ n, (∀ k, k < n → F k = F' k) → oP S F O n = oP S F' O n
  | 0, _ => rfl
  | n + 1, h => by
    unfold oP
    rw [oP_F O n (fun k hk => h k (by omega)), h n (by omega)]
theorem oS_F {S : SS} {F F' : Nat → Int32} (O : Nat → Int32) : ∀ n, (∀ k, k < n → F k = F' k) → oS S F O n = oS S F' O n
  | 0, _ => rfl
  | n + 1, h => by
    unfold oS
    rw [oS_F O n (fun k hk => h k (by omega)), h n (by omega)]
theorem pre_lt {f g : Nat → Int32} {n k : Nat} (h : k < n) : pre n f g k = f k := by
  unfold pre
  exact if_pos h
section adv
variable {M : MM} {nd nw np ns h b : Nat} {rain : Int32}
theorem advM_off {k : Nat} (q : k ≠ 1 ∧ k ≠ 7 ∧ k ≠ 8 ∧ k ≠ 9 ∧ k ≠ 15 ∧ k ≠ 27 ∧ k ≠ 28 ∧ k ≠ 29) : (advM M nd nw np ns h b rain).1 k = M.1 k := by
  unfold advM
  rw [ui_ne q.1, ui_ne q.1, uc_ne q.2.2.2.1, uc_ne q.2.2.1, N4_off _ _ _ _ _ (by omega), ui_ne q.2.2.2.2.1]
theorem advM_1 : (advM M nd nw np ns h b rain).1 1 = upd (upd (M.1 1) 8 (M.1 1 8 + M.1 31 (h % 24) * nI (pcn b))) 7 (nI (h + 1)) := by
  unfold advM
  rw [ui_same, ui_same, uc_ne (by decide), uc_ne (by decide), N4_off _ _ _ _ _ (by omega), ui_ne (by decide)]
theorem D7o : Dst 7 27 28 29 := by unfold Dst; omega
theorem advM_7 : (advM M nd nw np ns h b rain).1 7 = mvS M.1 nd nw np ns rain (h % 24) b (M.1 7) := by
  unfold advM
  rw [ui_ne (by decide), ui_ne (by decide), uc_ne (by decide), uc_ne (by decide)]
  exact N4_w D7o
theorem advM_8 : (advM M nd nw np ns h b rain).1 8 = pre nd (fun d => M.1 8 d + rain * M.1 3 d) (M.1 8) := by
  unfold advM
  rw [ui_ne (by decide), ui_ne (by decide), uc_ne (by decide), uc_at]
theorem advM_9 : (advM M nd nw np ns h b rain).1 9 = oS M.1 (sF M.1 (h % 24) (mvP M.1 nd nw np rain b (M.1 7))) (oP M.1 (pF M.1 b (mvW M.1 nd nw rain (M.1 7))) (M.1 9) np) ns := by
  unfold advM
  rw [ui_ne (by decide), ui_ne (by decide), uc_at, oS_F _ ns (fun k hk => pre_lt hk), oP_F _ np (fun k hk => pre_lt hk)]
theorem advM_15 : (advM M nd nw np ns h b rain).1 15 = upd (M.1 15) 6 (nI b) := by
  unfold advM
  rw [ui_ne (by decide), ui_ne (by decide), uc_ne (by decide), uc_ne (by decide), N4_off _ _ _ _ _ (by omega), ui_same]
theorem advM_27 : (advM M nd nw np ns h b rain).1 27 = pre nw (wF M.1 (mvR M.1 nd rain (M.1 7))) (M.1 27) := by
  unfold advM
  rw [ui_ne (by decide), ui_ne (by decide), uc_ne (by decide), uc_ne (by decide)]
  exact N4_a D7o
theorem advM_28 : (advM M nd nw np ns h b rain).1 28 = pre np (pF M.1 b (mvW M.1 nd nw rain (M.1 7))) (M.1 28) := by
  unfold advM
  rw [ui_ne (by decide), ui_ne (by decide), uc_ne (by decide), uc_ne (by decide)]
  exact N4_b D7o
theorem advM_29 : (advM M nd nw np ns h b rain).1 29 = pre ns (sF M.1 (h % 24) (mvP M.1 nd nw np rain b (M.1 7))) (M.1 29) := by
  unfold advM
  rw [ui_ne (by decide), ui_ne (by decide), uc_ne (by decide), uc_ne (by decide)]
  exact N4_c
theorem stpM_off {k : Nat} (q : k ≠ 72 ∧ k ≠ 75 ∧ k ≠ 78 ∧ k ≠ 79 ∧ k ≠ 89 ∧ k ≠ 96 ∧ k ≠ 97 ∧ k ≠ 98) : (stpM M nd nw np ns h b rain).1 k = M.1 k := by
  unfold stpM
  rw [ui_ne q.1, N6_off _ _ _ _ _ _ _ (by omega), ui_ne q.1, uc_ne (by omega)]
theorem stpM_72 : (stpM M nd nw np ns h b rain).1 72 = upd (upd (M.1 72) 28 (M.1 72 28 + M.1 95 (h % 24) * nI (pcn b))) 27 (nI (h + 1)) := by
  unfold stpM
  rw [ui_same, N6_off _ _ _ _ _ _ _ (by decide), ui_same, uc_ne (by decide)]
theorem stpM_89 : (stpM M nd nw np ns h b rain).1 89 = pre np (bitI b) (M.1 89) := by
  unfold stpM
  rw [ui_ne (by decide), N6_off _ _ _ _ _ _ _ (by decide), ui_ne (by decide), uc_at]
theorem stpM_75 : (stpM M nd nw np ns h b rain).1 75 = mvS (mS M) nd nw np ns rain (h % 24) b (M.1 75) := by
  unfold stpM
  rw [ui_ne (by decide)]
  exact N6_W
theorem stpM_78 : (stpM M nd nw np ns h b rain).1 78 = flR (mS M) nd rain (M.1 78) := by
  unfold stpM
  rw [ui_ne (by decide)]
  exact N6_R
theorem stpM_79 : (stpM M nd nw np ns h b rain).1 79 = oS (mS M) (sF (mS M) (h % 24) (mvP (mS M) nd nw np rain b (M.1 75))) (oP (mS M) (pF (mS M) b (mvW (mS M) nd nw rain (M.1 75))) (M.1 79) np) ns := by
  unfold stpM
  rw [ui_ne (by decide)]
  exact N6_O
theorem stpM_96 : (stpM M nd nw np ns h b rain).1 96 = pre nw (wF (mS M) (mvR (mS M) nd rain (M.1 75))) (M.1 96) := by
  unfold stpM
  rw [ui_ne (by decide)]
  exact N6_1
theorem stpM_97 : (stpM M nd nw np ns h b rain).1 97 = pre np (pF (mS M) b (mvW (mS M) nd nw rain (M.1 75))) (M.1 97) := by
  unfold stpM
  rw [ui_ne (by decide)]
  exact N6_2
theorem stpM_98 : (stpM M nd nw np ns h b rain).1 98 = pre ns (sF (mS M) (h % 24) (mvP (mS M) nd nw np rain b (M.1 75))) (M.1 98) := by
  unfold stpM
  rw [ui_ne (by decide)]
  exact N6_3
end adv
theorem bit_big {b np p : Nat} (hb : b < 2 ^ np) (hp : np ≤ p) : b.testBit p = false :=
  Nat.testBit_lt_two_pow (Nat.lt_of_lt_of_le hb (Nat.pow_le_pow_right (by omega) hp))
theorem mp_72 (a : Nat) : 72 ≤ mp a := by
  unfold mp
  split <;> omega
theorem stpM_hi {M D : MM} {nd nw np ns h b : Nat} {rain : Int32} (e : ∀ k, 72 ≤ k → M.1 k = D.1 k) (k : Nat) (hk : 72 ≤ k) : (stpM M nd nw np ns h b rain).1 k = (stpM D nd nw np ns h b rain).1 k := by
  have eS : mS M = mS D := by
    funext a
    exact e _ (mp_72 a)
  have e72 := e 72 (by decide); have e75 := e 75 (by decide); have e78 := e 78 (by decide); have e79 := e 79 (by decide)
  have e89 := e 89 (by decide); have e95 := e 95 (by decide); have e96 := e 96 (by decide); have e97 := e 97 (by decide); have e98 := e 98 (by decide)
  by_cases c1 : k = 72
  · rw [c1, stpM_72, stpM_72, e72, e95]
  by_cases c2 : k = 75
  · rw [c2, stpM_75, stpM_75, e75, eS]
  by_cases c3 : k = 78
  · rw [c3, stpM_78, stpM_78, e78, eS]
  by_cases c4 : k = 79
  · rw [c4, stpM_79, stpM_79, e79, e75, eS]
  by_cases c5 : k = 89
  · rw [c5, stpM_89, stpM_89, e89]
  by_cases c6 : k = 96
  · rw [c6, stpM_96, stpM_96, e96, e75, eS]
  by_cases c7 : k = 97
  · rw [c7, stpM_97, stpM_97, e97, e75, eS]
  by_cases c8 : k = 98
  · rw [c8, stpM_98, stpM_98, e98, e75, eS]
  rw [stpM_off (by omega), stpM_off (by omega)]
  exact e k hk
theorem two_step {C P : MM} {T r : Nat} (I : Inv P T) (hC : ∀ k, k < 72 → P.1 k = C.1 k) (hT : T ≤ 20000) (hr : r ≤ 100) : ∃ (x : Int32) (C' Q : MM), Fn 5 mX2_advance [.ref 1, .int (nI r)] C (some (.int x)) C' ∧ (∀ k, 30 ≤ k → C'.1 k = C.1 k) ∧ Inv Q (T + 1) ∧ (∀ k, k < 72 → Q.1 k = C'.1 k) ∧ (∀ k, 99 ≤ k → Q.1 k = P.1 k) ∧ ∀ D : MM, (∀ k, 72 ≤ k → P.1 k = D.1 k) → ∃ D', Fn 4 mX10_steps [.ref 72, .int (nI r)] D (some (.int x)) D' ∧ (∀ k, 72 ≤ k → Q.1 k = D'.1 k) ∧ (∀ k, k < 72 ∨ 99 ≤ k → D'.1 k = D.1 k) := by
  obtain ⟨nd, nw, np, ns, nwd, h, b, i1, i2, i3, i4, i5, i6, i7⟩ := I
  obtain ⟨s1, s2, s3, s4, s5, s6, s7, s8, s9, s10, s11, s12, s13, s14, s15, s16, s17⟩ := i1
  rw [hC _ (by decide)] at s1 s3 s5 s7 s9 s12 s15
  rw [hC 1 (by decide)] at s14
  have rc : ∀ k ∈ rowL, P.1 k = C.1 k := fun k hk => hC _ (by have := rowL_le k hk; omega)
  have rd : ∀ k ∈ rowL, P.1 k = mS P k := fun k hk => rel_row i2 k hk
  have rcd : ∀ k ∈ rowL, C.1 k = mS P k := fun k hk => by rw [← rc k hk, rd k hk]
  have VC : VLd C.1 nd nw np ns := i3.congr rc
  have VP : VLd (mS P) nd nw np ns := i3.congr rd
  have h4 := VC.p4
  have h6 := VC.d6
  have hb16 : b < 16 := Nat.lt_of_lt_of_le s16 (Nat.pow_le_pow_right (n := 2) (by omega) h4)
  have rl : ∀ p ∈ prs, P.1 p.2 = C.1 p.1 := fun p hp => by
    have h1 : ∀ z ∈ prs, z.1 < 72 := by decide
    rw [i2 p hp, hC _ (h1 p hp)]
  have e7 : P.1 75 = C.1 7 := rl (7, 75) (by decide)
  have hle := awk_le C.1 h b np
  have ea : awk (mS P) h b np = awk C.1 h b np := (awk_congr rcd h b np).symm
  have fa := fn_advance (M := C) (rain := nI r) VC s1 s3 s5 s7 (show h < 2 ^ 30 by omega) s12 hb16 s15
  have eal : alm (mS P) nd (mvS C.1 nd nw np ns (nI r) (h % 24) (awk C.1 h b np) (C.1 7)) = alm C.1 nd (mvS C.1 nd nw np ns (nI r) (h % 24) (awk C.1 h b np) (C.1 7)) := by
    unfold alm
    rw [show (fun d => if brc (mS P) (mvS C.1 nd nw np ns (nI r) (h % 24) (awk C.1 h b np) (C.1 7)) d ≤ 0 then (0 : Int32) else 1) = (fun d => if brc C.1 (mvS C.1 nd nw np ns (nI r) (h % 24) (awk C.1 h b np) (C.1 7)) d ≤ 0 then (0 : Int32) else 1) from funext fun d => by rw [brc_congr rcd]]
  have fb : ∀ D : MM, (∀ k, 72 ≤ k → P.1 k = D.1 k) → Fn 4 mX10_steps [.ref 72, .int (nI r)] D (some (.int (alm C.1 nd (mvS C.1 nd nw np ns (nI r) (h % 24) (awk C.1 h b np) (C.1 7))))) (stpM D nd nw np ns h (awk C.1 h b np) (nI r)) := fun D hD => by
    have eS : mS D = mS P := by
      funext a
      exact (hD _ (mp_72 a)).symm
    have e72 := hD 72 (by decide)
    have e89 := hD 89 (by decide)
    have e75 := hD 75 (by decide)
    have fb := fn_steps (M := D) (rain := nI r) (by rw [eS]; exact VP) (by rw [← e72]; exact s2) (by rw [← e72]; exact s4) (by rw [← e72]; exact s6) (by rw [← e72]; exact s8) (show h < 2 ^ 30 by omega) (by rw [← e72]; exact s13) s16 (by rw [← e89]; exact s17)
    rw [eS, ea, ← e75, e7, ← mvS_congr rcd, eal] at fb
    exact fb
  generalize awk C.1 h b np = b' at fa fb hle
  have oC : ∀ k, k ≠ 1 ∧ k ≠ 7 ∧ k ≠ 8 ∧ k ≠ 9 ∧ k ≠ 15 ∧ k ≠ 27 ∧ k ≠ 28 ∧ k ≠ 29 → (advM C nd nw np ns h b' (nI r)).1 k = C.1 k := fun k hk => advM_off hk
  have oD : ∀ k, k ≠ 72 ∧ k ≠ 75 ∧ k ≠ 78 ∧ k ≠ 79 ∧ k ≠ 89 ∧ k ≠ 96 ∧ k ≠ 97 ∧ k ≠ 98 → (stpM P nd nw np ns h b' (nI r)).1 k = P.1 k := fun k hk => stpM_off hk
  refine ⟨_, _, mrg (advM C nd nw np ns h b' (nI r)) (stpM P nd nw np ns h b' (nI r)), fa, fun k hk => oC k (by omega), ⟨nd, nw, np, ns, nwd, h + 1, b', ?_, ?_, ?_, ?_, ?_, ?_, by omega⟩, fun k hk => mrg_lo hk, fun k hk => by rw [mrg_hi (by omega)]; exact oD k (by omega), fun D hD => ⟨_, fb D hD, fun k hk => by rw [mrg_hi hk]; exact stpM_hi hD k hk, fun k hk => stpM_off (by omega)⟩⟩
  · unfold Sz
    rw [mrg_lo (k := 2) (by decide), mrg_lo (k := 10) (by decide), mrg_lo (k := 15) (by decide), mrg_lo (k := 22) (by decide), mrg_lo (k := 32) (by decide), mrg_lo (k := 1) (by decide), mrg_hi (k := 72) (by decide), mrg_hi (k := 89) (by decide), oC 2 (by decide), oC 10 (by decide), oC 22 (by decide), oC 32 (by decide), advM_15, advM_1, stpM_72, stpM_89]
    refine ⟨s1, ?_, s3, ?_, ?_, ?_, s7, ?_, s9, ?_, s11, upd_at _ _ _, upd_at _ _ _, ?_, upd_at _ _ _, by omega, fun p hp => ?_⟩
    · rw [upd_ne (by decide), upd_ne (by decide)]; exact s2
    · rw [upd_ne (by decide), upd_ne (by decide)]; exact s4
    · rw [upd_ne (by decide)]; exact s5
    · rw [upd_ne (by decide), upd_ne (by decide)]; exact s6
    · rw [upd_ne (by decide), upd_ne (by decide)]; exact s8
    · rw [upd_ne (by decide), upd_ne (by decide)]; exact s10
    · rw [upd_ne (by decide), upd_at, upd_ne (by decide), upd_at, s14, show P.1 95 = C.1 31 from rl (31, 95) (by decide)]
    · unfold pre
      by_cases q : p < np
      · rw [if_pos q]
      · rw [if_neg q, s17 p hp]
        unfold bitI
        rw [bit_big s16 (by omega), bit_big (Nat.lt_of_le_of_lt hle s16) (by omega)]
  · have h1 : ∀ z ∈ prs, z.1 < 72 ∧ 72 ≤ z.2 ∧ z.1 ≠ 1 ∧ z.1 ≠ 15 ∧ z.2 ≠ 72 ∧ z.2 ≠ 89 ∧ (z.1 = 7 ↔ z.2 = 75) ∧ (z.1 = 8 ↔ z.2 = 78) ∧ (z.1 = 9 ↔ z.2 = 79) ∧ (z.1 = 27 ↔ z.2 = 96) ∧ (z.1 = 28 ↔ z.2 = 97) ∧ (z.1 = 29 ↔ z.2 = 98) := by decide
    intro z hz
    obtain ⟨q1, q2, q3, q4, q5, q6, g1, g2, g3, g4, g5, g6⟩ := h1 z hz
    rw [mrg_hi q2, mrg_lo q1]
    have k := rl z hz
    by_cases c1 : z.1 = 7
    · rw [c1, g1.mp c1, advM_7, stpM_75, e7, ← mvS_congr rcd]
    by_cases c2 : z.1 = 8
    · rw [c2, g2.mp c2] at k ⊢
      rw [advM_8, stpM_78, k]
      unfold flR
      rw [← rcd 3 (by decide)]
    by_cases c3 : z.1 = 9
    · rw [c3, g3.mp c3] at k ⊢
      rw [advM_9, stpM_79, k, e7, ← mvP_congr rcd, ← mvW_congr rcd, show sF (mS P) (h % 24) (mvP C.1 nd nw np (nI r) b' (C.1 7)) = sF C.1 (h % 24) (mvP C.1 nd nw np (nI r) b' (C.1 7)) from funext fun k => (sF_congr rcd _ _ k).symm, show pF (mS P) b' (mvW C.1 nd nw (nI r) (C.1 7)) = pF C.1 b' (mvW C.1 nd nw (nI r) (C.1 7)) from funext fun k => (pF_congr rcd _ _ k).symm, ← oP_congr rcd, ← oS_congr rcd]
    by_cases c4 : z.1 = 27
    · rw [c4, g4.mp c4] at k ⊢
      rw [advM_27, stpM_96, k, e7, ← mvR_congr rcd, show wF (mS P) (mvR C.1 nd (nI r) (C.1 7)) = wF C.1 (mvR C.1 nd (nI r) (C.1 7)) from funext fun k => (wF_congr rcd _ k).symm]
    by_cases c5 : z.1 = 28
    · rw [c5, g5.mp c5] at k ⊢
      rw [advM_28, stpM_97, k, e7, ← mvW_congr rcd, show pF (mS P) b' (mvW C.1 nd nw (nI r) (C.1 7)) = pF C.1 b' (mvW C.1 nd nw (nI r) (C.1 7)) from funext fun k => (pF_congr rcd _ _ k).symm]
    by_cases c6 : z.1 = 29
    · rw [c6, g6.mp c6] at k ⊢
      rw [advM_29, stpM_98, k, e7, ← mvP_congr rcd, show sF (mS P) (h % 24) (mvP C.1 nd nw np (nI r) b' (C.1 7)) = sF C.1 (h % 24) (mvP C.1 nd nw np (nI r) b' (C.1 7)) from funext fun k => (sF_congr rcd _ _ k).symm]
    rw [oC _ (by omega), oD _ (by omega)]
    exact k
  · refine VC.congr fun k hk => ?_
    have h2 : ∀ k ∈ rowL, k ≠ 1 ∧ k ≠ 7 ∧ k ≠ 8 ∧ k ≠ 9 ∧ k ≠ 15 ∧ k ≠ 27 ∧ k ≠ 28 ∧ k ≠ 29 := by decide
    rw [mrg_lo (by have := rowL_le k hk; omega), oC k (h2 k hk)]
  · refine i4.congr fun k hk => ?_
    by_cases q : k < 72
    · rw [mrg_lo q, hC k q, oC k (by omega)]
    · rw [mrg_hi (by omega), oD k (by omega)]
  · refine i5.congr fun k hk => ?_
    by_cases q : k < 72
    · rw [mrg_lo q, hC k q, oC k (by omega)]
    · rw [mrg_hi (by omega), oD k (by omega)]
  · rw [hC 7 (by decide)] at i6
    rw [mrg_lo (by decide)]
    rw [advM_7]
    have := wb_mv (i := h % 24) (b := b') VC hr (by omega) i6
    rw [show ((100000 : Int) * nd + 30000 * ((h + 1 : Nat) : Int)) = 100000 * nd + 30000 * h + 30000 by push_cast; omega]
    exact this

/-! the model: an hour's flow, a step -/
def N6 (M : MM) (W R O F1 F2 F3 : Nat → Int32) : MM := uc (uc (uc (uc (uc (uc M 75 W) 78 R) 79 O) 96 F1) 97 F2) 98 F3
section N6
variable {M : MM} {W R O F1 F2 F3 : Nat → Int32}
theorem N6_off (M : MM) (W R O F1 F2 F3 : Nat → Int32) {k : Nat} (h : k ≠ 75 ∧ k ≠ 78 ∧ k ≠ 79 ∧ k ≠ 96 ∧ k ≠ 97 ∧ k ≠ 98) : (N6 M W R O F1 F2 F3).1 k = M.1 k := by
  unfold N6
  rw [uc_ne h.2.2.2.2.2, uc_ne h.2.2.2.2.1, uc_ne h.2.2.2.1, uc_ne h.2.2.1, uc_ne h.2.1, uc_ne h.1]
theorem N6_W : (N6 M W R O F1 F2 F3).1 75 = W := by unfold N6; rw [uc_ne (by decide), uc_ne (by decide), uc_ne (by decide), uc_ne (by decide), uc_ne (by decide), uc_at]
theorem N6_R : (N6 M W R O F1 F2 F3).1 78 = R := by unfold N6; rw [uc_ne (by decide), uc_ne (by decide), uc_ne (by decide), uc_ne (by decide), uc_at]
theorem N6_O : (N6 M W R O F1 F2 F3).1 79 = O := by unfold N6; rw [uc_ne (by decide), uc_ne (by decide), uc_ne (by decide), uc_at]
theorem N6_1 : (N6 M W R O F1 F2 F3).1 96 = F1 := by unfold N6; rw [uc_ne (by decide), uc_ne (by decide), uc_at]
theorem N6_2 : (N6 M W R O F1 F2 F3).1 97 = F2 := by unfold N6; rw [uc_ne (by decide), uc_at]
theorem N6_3 : (N6 M W R O F1 F2 F3).1 98 = F3 := by unfold N6; rw [uc_at]
theorem N6_uW (g : Nat → Int32) : uc (N6 M W R O F1 F2 F3) 75 g = N6 M g R O F1 F2 F3 := by
  unfold N6
  rw [uc_comm _ (show 98 ≠ 75 by decide), uc_comm _ (show 97 ≠ 75 by decide), uc_comm _ (show 96 ≠ 75 by decide), uc_comm _ (show 79 ≠ 75 by decide), uc_comm _ (show 78 ≠ 75 by decide), uc_uc]
theorem N6_uR (g : Nat → Int32) : uc (N6 M W R O F1 F2 F3) 78 g = N6 M W g O F1 F2 F3 := by
  unfold N6
  rw [uc_comm _ (show 98 ≠ 78 by decide), uc_comm _ (show 97 ≠ 78 by decide), uc_comm _ (show 96 ≠ 78 by decide), uc_comm _ (show 79 ≠ 78 by decide), uc_uc]
theorem N6_uO (g : Nat → Int32) : uc (N6 M W R O F1 F2 F3) 79 g = N6 M W R g F1 F2 F3 := by
  unfold N6
  rw [uc_comm _ (show 98 ≠ 79 by decide), uc_comm _ (show 97 ≠ 79 by decide), uc_comm _ (show 96 ≠ 79 by decide), uc_uc]
theorem N6_u1 (g : Nat → Int32) : uc (N6 M W R O F1 F2 F3) 96 g = N6 M W R O g F2 F3 := by
  unfold N6
  rw [uc_comm _ (show 98 ≠ 96 by decide), uc_comm _ (show 97 ≠ 96 by decide), uc_uc]
theorem N6_u2 (g : Nat → Int32) : uc (N6 M W R O F1 F2 F3) 97 g = N6 M W R O F1 g F3 := by
  unfold N6
  rw [uc_comm _ (show 98 ≠ 97 by decide), uc_uc]
theorem N6_u3 (g : Nat → Int32) : uc (N6 M W R O F1 F2 F3) 98 g = N6 M W R O F1 F2 g := by
  unfold N6
  rw [uc_uc]
theorem N6_self : N6 M (M.1 75) (M.1 78) (M.1 79) (M.1 96) (M.1 97) (M.1 98) = M := by
  unfold N6
  rw [uc_self, uc_self, uc_self, uc_self, uc_self, uc_self]
theorem mp_le : ∀ k ∈ rowL, mp k ≠ 75 ∧ mp k ≠ 78 ∧ mp k ≠ 79 ∧ mp k ≠ 96 ∧ mp k ≠ 97 ∧ mp k ≠ 98 ∧ mp k ≠ 89 ∧ mp k ≠ 72 ∧ mp k ≠ 90 ∧ 72 < mp k ∧ mp k < 96 := by decide
theorem N6_row : ∀ k ∈ rowL, mS M k = mS (N6 M W R O F1 F2 F3) k := fun k hk => by
  have := mp_le k hk
  unfold mS
  rw [N6_off _ _ _ _ _ _ _ ⟨this.1, this.2.1, this.2.2.1, this.2.2.2.1, this.2.2.2.2.1, this.2.2.2.2.2.1⟩]
end N6
theorem fn_less (a b : Int32) (M : MM) : Fn 1 mX10_less [.int a, .int b] M (some (.int (if b ≤ a then b else a))) M := fn_intro ok_X10_less (Nat.le_of_ble_eq_true rfl) fun _ g gr => b_X10_less_0 g gr (by decide) a b M ⟨rfl, rfl⟩
theorem le_lt_min (a b : Int32) : (if b ≤ a then b else a) = (if b < a then b else a) := by
  by_cases h : b < a
  · have h2 : b ≤ a := by rw [Int32.lt_iff_toInt_lt] at h; rw [Int32.le_iff_toInt_le]; omega
    rw [if_pos h, if_pos h2]
  · rw [if_neg h]
    by_cases h2 : b ≤ a
    · rw [if_pos h2]
      rw [Int32.lt_iff_toInt_lt] at h; rw [Int32.le_iff_toInt_le] at h2
      exact Int32.toInt_inj.mp (by omega)
    · rw [if_neg h2]
theorem bit_eq1 {b k : Nat} (hb : b < 16) (hk : k < 4) : (((nI b >>> (nI k &&& 31)) &&& 1) = 1) ↔ b.testBit k = true := by
  rw [bit_nI b hb k hk]
  cases b.testBit k <;> simp
def flR (S : SS) (nd : Nat) (rain : Int32) (R : Nat → Int32) : Nat → Int32 := pre nd (fun d => R d + rain * S 3 d) R
theorem fn_flows {M : MM} {nd nw np ns i b : Nat} {rain : Int32} (V : VLd (mS M) nd nw np ns) (z0 : M.1 72 0 = nI nd) (z1 : M.1 72 8 = nI nw) (z2 : M.1 72 13 = nI np) (z3 : M.1 72 21 = nI ns) (hi : i < 24) (hb : b < 16) :
    Fn 2 mX10_flows [.ref 72, .int rain, .int (nI i), .int (nI b)] M none (N6 M (mvS (mS M) nd nw np ns rain i b (M.1 75)) (flR (mS M) nd rain (M.1 78)) (oS (mS M) (sF (mS M) i (mvP (mS M) nd nw np rain b (M.1 75))) (oP (mS M) (pF (mS M) b (mvW (mS M) nd nw rain (M.1 75))) (M.1 79) np) ns)
      (pre nw (wF (mS M) (mvR (mS M) nd rain (M.1 75))) (M.1 96)) (pre np (pF (mS M) b (mvW (mS M) nd nw rain (M.1 75))) (M.1 97)) (pre ns (sF (mS M) i (mvP (mS M) nd nw np rain b (M.1 75))) (M.1 98))) := fn_intro ok_X10_flows (Nat.le_of_ble_eq_true rfl) fun G g gr => by
  refine b_X10_flows_0 g gr (by decide) rain (nI i) (nI b) M ?_
  have h6 := V.d6
  have h8 := V.w8
  have hp := V.p4
  have hs := V.s4
  have off : ∀ (W R O F1 F2 F3 : Nat → Int32) (k : Nat), (k = 72 ∨ k = 73 ∨ k = 74 ∨ (80 ≤ k ∧ k ≤ 95)) → (N6 M W R O F1 F2 F3).1 k = M.1 k := fun W R O F1 F2 F3 k hk => N6_off _ _ _ _ _ _ _ (by omega)
  have lv9 : ∀ (W R O F1 F2 F3 : Nat → Int32) (d : Nat), d < nd → Fn 1 mX10_level [.ref 72, .int (nI d)] (N6 M W R O F1 F2 F3) (some (.int (lev (mS M) W d))) (N6 M W R O F1 F2 F3) := fun W R O F1 F2 F3 d hd => by
    obtain ⟨A, A1, A2, eA⟩ := V.A hd
    have := fn_X10_level (M := N6 M W R O F1 F2 F3) (d := d) (by omega) A1 A2 (by rw [off _ _ _ _ _ _ 73 (by omega)]; exact eA)
    rw [N6_W, ← lev_congr N6_row] at this
    exact this
  -- sluices
  have sl : ∀ (F1 F2 R Wp : Nat → Int32) (Op : Nat → Int32) (k j : Nat), j + k = ns → ∀ W O : Nat → Int32, Wp = mvP (mS M) nd nw np rain b (M.1 75) → Op = oP (mS M) (pF (mS M) b (mvW (mS M) nd nw rain (M.1 75))) (M.1 79) np → W = sW (mS M) i Wp j → O = oS (mS M) (sF (mS M) i Wp) Op j → F1 = pre nw (wF (mS M) (mvR (mS M) nd rain (M.1 75))) (M.1 96) → F2 = pre np (pF (mS M) b (mvW (mS M) nd nw rain (M.1 75))) (M.1 97) → R = flR (mS M) nd rain (M.1 78) →
      At_X10_flows_408 G rain (nI i) (nI b) (nI j) (N6 M W R O F1 F2 (pre j (sF (mS M) i Wp) (M.1 98))) := by
    intro F1 F2 R Wp Op k
    induction k with
    | zero =>
      intro j hj W O hWp hOp hW hO h1 h2 hR
      refine b_X10_flows_408 g gr (by decide) _ _ _ _ _ ⟨fun _ => ⟨rfl, ?_⟩, fun c => ?_⟩
      · rw [hW, hO, h1, h2, hR, hWp, hOp, show j = ns by omega]; rfl
      · exact absurd (by rw [off _ _ _ _ _ _ 72 (by omega), z3]; exact nI_le (by omega) (by omega)) c
    | succ k ih =>
      intro j hj W O hWp hOp hW hO h1 h2 hR
      obtain ⟨⟨a, ha, ea⟩, -⟩ := V.s (show j < ns by omega)
      have ca : (nI a).toNatClampNeg = a := nI_clamp (by omega)
      have qa : sA (mS M) j = a := by unfold sA; rw [ea, ca]
      have ea : M.1 91 j = nI a := ea
      have K : ∀ (v5 : Int32) (v6 : Int64), At_X10_flows_507 G rain (nI i) (nI b) (nI j) v5 v6 (sF (mS M) i Wp j) (N6 M W R O F1 F2 (pre j (sF (mS M) i Wp) (M.1 98))) := by
        intro v5 v6
        refine b_X10_flows_507 g gr (by decide) _ _ _ _ _ _ _ _ ⟨vp_in_nI (by omega) (by omega), ?_⟩
        intro M2 e2
        rw [ui_row, nI_clamp (show j < 2 ^ 31 by omega), N6_3, N6_u3, pre_s] at e2
        subst e2
        rw [nI_clamp (show j < 2 ^ 31 by omega), off _ _ _ _ _ _ 91 (by omega), ea, ca]
        refine ⟨vp_in_nI (by omega) (by omega), ?_⟩
        intro M4 e4
        rw [ui_row, N6_W, N6_uW] at e4
        subst e4
        rw [off _ _ _ _ _ _ 91 (by omega), ea, ca]
        refine ⟨vp_in_nI (by omega) (by omega), ?_⟩
        intro M6 e6 x7 e7
        rw [e6, e7, ui_row, N6_O, N6_uO, nI_1]
        refine ih (j + 1) (by omega) _ _ hWp hOp ?_ ?_ h1 h2 hR
        · rw [hW]
          show _ = sst (mS M) _ j _
          unfold sst
          rw [qa]
          rfl
        · rw [hO]
          show _ = upd _ _ _
          rw [qa]
      refine b_X10_flows_408 g gr (by decide) _ _ _ _ _ ⟨fun c => ?_, fun _ => ⟨vp_in_nI (by omega) (by omega), ?_⟩⟩
      · rw [off _ _ _ _ _ _ 72 (by omega), z3, nI_leI (by omega) (by omega)] at c; omega
      · rw [nI_clamp (show j < 2 ^ 31 by omega), off _ _ _ _ _ _ 91 (by omega), ea]
        refine ⟨_, _, lv9 _ _ _ _ _ _ a ha, vp_in_nI (by omega) (by omega), ?_⟩
        rw [nI_clamp (show i < 2 ^ 31 by omega), off _ _ _ _ _ _ 94 (by omega), off _ _ _ _ _ _ 92 (by omega), off _ _ _ _ _ _ 93 (by omega), off _ _ _ _ _ _ 91 (by omega), ea, ca, N6_W]
        intro x7 e7 x8 e8
        have key : sF (mS M) i Wp j = (if mS M 25 j = 0 then 0 else if 0 < x7 then (if x8 ≥ (W a).toInt64 then W a else x8.toInt32) else 0) := by
          unfold sF svm
          rw [qa, ← hW, e8, e7]
          rfl
        refine ⟨fun c => ?_, fun c => ⟨fun c2 => ⟨vp_in_nI (by omega) (by omega), fun c3 => ?_, fun c3 => ?_⟩, fun c2 => ?_⟩⟩
        · rw [if_pos (show mS M 25 j = 0 from c)] at key
          have := K x7 x8
          rw [key] at this
          exact this
        · rw [if_neg (show ¬ mS M 25 j = 0 from c), if_pos c2, if_pos c3] at key
          have := K x7 x8
          rw [key] at this
          exact this
        · rw [if_neg (show ¬ mS M 25 j = 0 from c), if_pos c2, if_neg c3] at key
          have := K x7 x8
          rw [key] at this
          exact this
        · rw [if_neg (show ¬ mS M 25 j = 0 from c), if_neg c2] at key
          have := K x7 x8
          rw [key] at this
          exact this
  -- pumps
  have pl : ∀ (F1 R Ww : Nat → Int32) (k j : Nat), j + k = np → ∀ W O : Nat → Int32, Ww = mvW (mS M) nd nw rain (M.1 75) → W = pW (mS M) b Ww j → O = oP (mS M) (pF (mS M) b Ww) (M.1 79) j → F1 = pre nw (wF (mS M) (mvR (mS M) nd rain (M.1 75))) (M.1 96) → R = flR (mS M) nd rain (M.1 78) →
      At_X10_flows_277 G rain (nI i) (nI b) (nI j) (N6 M W R O F1 (pre j (pF (mS M) b Ww) (M.1 97)) (M.1 98)) := by
    intro F1 R Ww k
    induction k with
    | zero =>
      intro j hj W O hWw hW hO h1 hR
      refine b_X10_flows_277 g gr (by decide) _ _ _ _ _ ⟨fun _ => ?_, fun c => ?_⟩
      · have := sl F1 (pre j (pF (mS M) b Ww) (M.1 97)) R W O ns 0 (by omega) W O (by rw [hW, hWw, show j = np by omega]; rfl) (by rw [hO, hWw, show j = np by omega]) rfl rfl h1 (by rw [hWw, show j = np by omega]) hR
        rw [pre_0] at this
        exact this
      · exact absurd (by rw [off _ _ _ _ _ _ 72 (by omega), z2]; exact nI_le (by omega) (by omega)) c
    | succ k ih =>
      intro j hj W O hWw hW hO h1 hR
      obtain ⟨a, ha, ea, et⟩ := V.p (show j < np by omega)
      have ca : (nI a).toNatClampNeg = a := nI_clamp (by omega)
      have qa : pA (mS M) j = a := by unfold pA; rw [ea, ca]
      have ea : M.1 84 j = nI a := ea
      have K : At_X10_flows_322 G rain (nI i) (nI b) (nI j) (pF (mS M) b Ww j) (N6 M W R O F1 (pre j (pF (mS M) b Ww) (M.1 97)) (M.1 98)) := by
        refine b_X10_flows_322 g gr (by decide) _ _ _ _ _ _ ⟨vp_in_nI (by omega) (by omega), ?_⟩
        intro M2 e2
        rw [ui_row, nI_clamp (show j < 2 ^ 31 by omega), N6_2, N6_u2, pre_s] at e2
        subst e2
        rw [nI_clamp (show j < 2 ^ 31 by omega), off _ _ _ _ _ _ 84 (by omega), ea, ca]
        refine ⟨vp_in_nI (by omega) (by omega), ?_⟩
        intro M4 e4
        rw [ui_row, N6_W, N6_uW] at e4
        subst e4
        rw [off _ _ _ _ _ _ 84 (by omega), off _ _ _ _ _ _ 85 (by omega), ea, ca]
        have hWs : pW (mS M) b Ww (j + 1) = pst (mS M) W j (pF (mS M) b Ww j) := by
          rw [hW]; rfl
        have hOs : oP (mS M) (pF (mS M) b Ww) (M.1 79) (j + 1) = if mS M 17 j = -4 then upd O a (O a + pF (mS M) b Ww j) else O := by
          rw [hO]
          show (if _ then upd _ _ _ else _) = _
          rw [qa]
        refine ⟨fun c => ?_, fun c => ⟨vp_in_nI (by omega) (by omega), ?_⟩⟩
        · rcases et with et | ⟨t, ht, hat, et⟩
          · exact absurd et c
          · have et' : M.1 85 j = nI t := et
            have ct : (nI t).toNatClampNeg = t := nI_clamp (by omega)
            rw [et', ct]
            refine ⟨vp_in_nI (by omega) (by omega), ?_⟩
            intro M7 e7 x8 e8
            rw [e7, e8, ui_row, N6_W, N6_uW, nI_1]
            refine ih (j + 1) (by omega) _ _ hWw ?_ ?_ h1 hR
            · rw [hWs]
              unfold pst
              rw [if_neg (show ¬ mS M 17 j = -4 from c), et, ct, qa]
              rfl
            · rw [hOs, if_neg (show ¬ mS M 17 j = -4 from c)]
        · intro M10 e10 x11 e11
          rw [e10, e11, ui_row, N6_O, N6_uO, nI_1]
          refine ih (j + 1) (by omega) _ _ hWw ?_ ?_ h1 hR
          · rw [hWs]
            unfold pst
            rw [if_pos (show mS M 17 j = -4 from c), qa]
          · rw [hOs, if_pos (show mS M 17 j = -4 from c)]
      refine b_X10_flows_277 g gr (by decide) _ _ _ _ _ ⟨fun c => ?_, fun _ => ⟨fun c => ?_, fun c => ⟨vp_in_nI (by omega) (by omega), ?_⟩⟩⟩
      · rw [off _ _ _ _ _ _ 72 (by omega), z2, nI_leI (by omega) (by omega)] at c; omega
      · rw [bit_eq1 hb (by omega)] at c
        have zz : pF (mS M) b Ww j = 0 := by
          unfold pF pvm
          rw [if_neg c]
        rw [zz] at K
        exact K
      · rw [bit_eq1 hb (by omega)] at c
        rw [nI_clamp (show j < 2 ^ 31 by omega), off _ _ _ _ _ _ 84 (by omega), off _ _ _ _ _ _ 86 (by omega), ea, ca, N6_W]
        refine ⟨vp_in_nI (by omega) (by omega), _, _, fn_less _ _ _, ?_⟩
        have zz : (if W a ≤ M.1 86 j then W a else M.1 86 j) = pF (mS M) b Ww j := by
          rw [le_lt_min, pF_on c, ← hW]
          unfold pmn
          rw [qa]
          rfl
        rw [zz]
        exact K
  -- weirs
  have wr : ∀ (R Wr : Nat → Int32) (k j : Nat), j + k = nw → ∀ W : Nat → Int32, Wr = mvR (mS M) nd rain (M.1 75) → W = wW (mS M) Wr j → R = flR (mS M) nd rain (M.1 78) →
      At_X10_flows_59 G rain (nI i) (nI b) (nI j) (N6 M W R (M.1 79) (pre j (wF (mS M) Wr) (M.1 96)) (M.1 97) (M.1 98)) := by
    intro R Wr k
    induction k with
    | zero =>
      intro j hj W hWr hW hR
      refine b_X10_flows_59 g gr (by decide) _ _ _ _ _ ⟨fun _ => ?_, fun c => ?_⟩
      · have := pl (pre j (wF (mS M) Wr) (M.1 96)) R W np 0 (by omega) W (M.1 79) (by rw [hW, hWr, show j = nw by omega]; rfl) rfl rfl (by rw [hWr, show j = nw by omega]) hR
        rw [pre_0] at this
        exact this
      · exact absurd (by rw [off _ _ _ _ _ _ 72 (by omega), z1]; exact nI_le (by omega) (by omega)) c
    | succ k ih =>
      intro j hj W hWr hW hR
      obtain ⟨a, t, x, ha, ht, hat, x1, x2, ea, et, ex⟩ := V.w (show j < nw by omega)
      obtain ⟨A, A1, A2, eA⟩ := V.A ha
      obtain ⟨B, B1, B2, eB⟩ := V.A ht
      have ca : (nI a).toNatClampNeg = a := nI_clamp (by omega)
      have ct : (nI t).toNatClampNeg = t := nI_clamp (by omega)
      have qa : wA (mS M) j = a := by unfold wA; rw [ea, ca]
      have qb : wB (mS M) j = t := by unfold wB; rw [et, ct]
      have ea : M.1 80 j = nI a := ea
      have et : M.1 81 j = nI t := et
      have hF : wF (mS M) Wr j = wvm (mS M) W a t j := by
        unfold wF
        rw [qa, qb, ← hW]
      have K : ∀ v7 v8 : Int32, At_X10_flows_235 G rain (nI i) (nI b) (nI j) (nI a) (nI t) v7 v8 (wF (mS M) Wr j) (N6 M W R (M.1 79) (pre j (wF (mS M) Wr) (M.1 96)) (M.1 97) (M.1 98)) := by
        intro v7 v8
        refine b_X10_flows_235 g gr (by decide) _ _ _ _ _ _ _ _ _ _ ⟨vp_in_nI (by omega) (by omega), ?_⟩
        intro M2 e2
        rw [ui_row, nI_clamp (show j < 2 ^ 31 by omega), N6_1, N6_u1, pre_s] at e2
        subst e2
        rw [ca]
        refine ⟨vp_in_nI (by omega) (by omega), ?_⟩
        intro M4 e4
        rw [ui_row, N6_W, N6_uW] at e4
        subst e4
        rw [ct]
        refine ⟨vp_in_nI (by omega) (by omega), ?_⟩
        intro M6 e6 x7 e7
        rw [e6, e7, ui_row, N6_W, N6_uW, nI_1]
        refine ih (j + 1) (by omega) _ hWr ?_ hR
        show _ = shf (wW (mS M) Wr j) (wA (mS M) j) (wB (mS M) j) (wF (mS M) Wr j)
        rw [← hW, qa, qb]
        rfl
      have J : ∀ v7 : Int32, At_X10_flows_124 G rain (nI i) (nI b) (nI j) (nI a) (nI t) v7 (lev (mS M) W a) (if mS M 13 j ≤ lev (mS M) W t then lev (mS M) W t else mS M 13 j) (N6 M W R (M.1 79) (pre j (wF (mS M) Wr) (M.1 96)) (M.1 97) (M.1 98)) := by
        intro v7
        refine b_X10_flows_124 g gr (by decide) _ _ _ _ _ _ _ _ _ _ ?_
        intro x1 e1
        refine ⟨fun c => ?_, fun c => ⟨vp_in_nI (by omega) (by omega), vp_in_nI (by omega) (by omega), ?_⟩⟩
        · have := K v7 x1
          rw [hF] at this
          unfold wvm at this
          rw [← e1, if_pos c] at this
          exact this
        · rw [ca, ct, nI_clamp (show j < 2 ^ 31 by omega), off _ _ _ _ _ _ 73 (by omega), off _ _ _ _ _ _ 83 (by omega), N6_W]
          refine ⟨by rw [show M.1 73 a = nI A from eA, show M.1 73 t = nI B from eB]; exact ar_ne A1 A2 B2, ?_⟩
          intro x6 e6
          refine ⟨vp_in_nI (by omega) (by omega), ?_⟩
          intro x8 e8 x10 e10
          have q : wF (mS M) Wr j = (if x10 ≥ (W a).toInt64 then W a else x10.toInt32) := by
            rw [hF]
            unfold wvm
            rw [← e1, if_neg c, e10, e8, e6]
            rfl
          refine ⟨fun c2 x12 e12 => ?_, fun c2 x13 e13 => ?_⟩
          · rw [if_pos c2] at q
            have := K v7 x1
            rw [q] at this
            rw [e12]
            exact this
          · rw [if_neg c2] at q
            have := K v7 x1
            rw [q] at this
            rw [e13]
            exact this
      refine b_X10_flows_59 g gr (by decide) _ _ _ _ _ ⟨fun c => ?_, fun _ => ⟨vp_in_nI (by omega) (by omega), ?_⟩⟩
      · rw [off _ _ _ _ _ _ 72 (by omega), z1, nI_leI (by omega) (by omega)] at c; omega
      · rw [nI_clamp (show j < 2 ^ 31 by omega), off _ _ _ _ _ _ 80 (by omega), off _ _ _ _ _ _ 81 (by omega), ea, et]
        intro x3 e3 x4 e4
        subst e3; subst e4
        refine ⟨_, _, lv9 _ _ _ _ _ _ t ht, _, _, lv9 _ _ _ _ _ _ a ha, ?_⟩
        rw [off _ _ _ _ _ _ 82 (by omega)]
        refine ⟨fun c => ?_, fun c => ?_⟩
        · have := J (lev (mS M) W t)
          rw [if_pos (show mS M 13 j ≤ _ from c)] at this
          exact this
        · have := J (lev (mS M) W t)
          rw [if_neg (show ¬ mS M 13 j ≤ _ from c)] at this
          exact this
  -- rain
  have rn : ∀ (k j : Nat), j + k = nd → At_X10_flows_3 G rain (nI i) (nI b) (nI j) (N6 M (pre j (rnW (mS M) rain (M.1 75)) (M.1 75)) (pre j (fun d => M.1 78 d + rain * mS M 3 d) (M.1 78)) (M.1 79) (M.1 96) (M.1 97) (M.1 98)) := by
    intro k
    induction k with
    | zero =>
      intro j hj
      refine b_X10_flows_3 g gr (by decide) _ _ _ _ _ ⟨fun _ => ?_, fun c => ?_⟩
      · have := wr (pre j (fun d => M.1 78 d + rain * mS M 3 d) (M.1 78)) (pre j (rnW (mS M) rain (M.1 75)) (M.1 75)) nw 0 (by omega) _ (by rw [show j = nd by omega]; rfl) rfl (by rw [show j = nd by omega]; rfl)
        rw [pre_0] at this
        exact this
      · exact absurd (by rw [off _ _ _ _ _ _ 72 (by omega), z0]; exact nI_le (by omega) (by omega)) c
    | succ k ih =>
      intro j hj
      have nx := ih (j + 1) (by omega)
      refine b_X10_flows_3 g gr (by decide) _ _ _ _ _ ⟨fun c => ?_, fun _ => ⟨vp_in_nI (by omega) (by omega), ?_⟩⟩
      · rw [off _ _ _ _ _ _ 72 (by omega), z0, nI_leI (by omega) (by omega)] at c; omega
      · intro M3 e3
        rw [nI_clamp (show j < 2 ^ 31 by omega), ui_row, N6_W, N6_uW, off _ _ _ _ _ _ 73 (by omega)] at e3
        have q : pre j (rnW (mS M) rain (M.1 75)) (M.1 75) j + rain * M.1 73 j = rnW (mS M) rain (M.1 75) j := by
          unfold pre rnW
          rw [if_neg (by omega)]
          rfl
        rw [q, pre_s] at e3
        subst e3
        intro M4 e4 x5 e5
        rw [nI_clamp (show j < 2 ^ 31 by omega), ui_row, N6_R, N6_uR, off _ _ _ _ _ _ 73 (by omega)] at e4
        have q2 : pre j (fun d => M.1 78 d + rain * mS M 3 d) (M.1 78) j + rain * M.1 73 j = (fun d => M.1 78 d + rain * mS M 3 d) j := by
          show (if j < j then _ else _) + _ = _
          rw [if_neg (by omega)]
          rfl
        rw [q2, pre_s] at e4
        rw [e4, e5, nI_1]
        exact nx
  have := rn nd 0 (by omega)
  rw [pre_0, pre_0, N6_self] at this
  exact this

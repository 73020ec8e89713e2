/-! the law's loop -/
theorem law_loop {G : GC} {L0 : Nat} {xs : Nat → Int32} (g : Good G mL_law 16) (lx : LX G L0 xs) (hL : L0 ≤ 3072) : ∀ (k c : Nat) (M : MM), Inv M (24 * c) → 6 * c ≤ L0 → L0 < 6 * (c + k) → At_L_law_18 G (nI (6 * c)) M
  | 0, c, M, I, h1, h2 => by omega
  | k + 1, c, M, I, h1, h2 => by
    have e6 : ((nI L0 - 6 : Int32) < nI (6 * c)) ↔ L0 < 6 * c + 6 := by
      have e : (nI L0 - 6 : Int32).toInt = (L0 : Int) - 6 := by
        rw [show (6 : Int32) = nI 6 from rfl]
        exact pk_sub_toInt (by omega) (by omega)
      rw [Int32.lt_iff_toInt_lt, e, nI_toInt (by omega)]
      omega
    refine b_L_law_18 g lx (by decide) _ M ⟨fun _ => trivial, fun cc => ?_⟩
    have hin : 6 * c + 6 ≤ L0 := by
      rcases Nat.lt_or_ge L0 (6 * c + 6) with q | q
      · exact absurd (e6.mpr q) cc
      · exact q
    have v0 : vp_in (nI (6 * c)) L0 := vp_in_nI (by omega) (by omega)
    have v1 : vp_in (nI (6 * c) + 1) L0 := by rw [nI_1]; exact vp_in_nI (by omega) (by omega)
    have v2 : vp_in (nI (6 * c) + 2) L0 := by rw [show (2 : Int32) = nI 2 from rfl, nI_add]; exact vp_in_nI (by omega) (by omega)
    have v3 : vp_in (nI (6 * c) + 3) L0 := by rw [show (3 : Int32) = nI 3 from rfl, nI_add]; exact vp_in_nI (by omega) (by omega)
    have v4 : vp_in (nI (6 * c) + 4) L0 := by rw [show (4 : Int32) = nI 4 from rfl, nI_add]; exact vp_in_nI (by omega) (by omega)
    have v5 : vp_in (nI (6 * c) + 5) L0 := by rw [show (5 : Int32) = nI 5 from rfl, nI_add]; exact vp_in_nI (by omega) (by omega)
    have next : ∀ (M2 : MM) (T : Nat), Inv M2 T → T ≤ 24 * c + 24 → At_L_law_1013 G (nI (6 * c)) M2 := fun M2 T I2 hT => by
      refine b_L_law_1013 g lx (by decide) _ M2 fun x ex => ?_
      rw [ex, show (6 : Int32) = nI 6 from rfl, nI_add, show 6 * c + 6 = 6 * (c + 1) by omega]
      exact law_loop g lx hL k (c + 1) M2 (I2.mono (by omega)) (by omega) (by omega)
    have hT : 24 * c + 24 ≤ 20000 := by omega
    refine ⟨v0, fun _ => ?_, fun _ => ?_, fun _ => ?_, fun _ => ?_, fun _ => ?_, fun _ => ?_, fun _ => ?_, fun _ => ?_, fun _ => ?_, fun _ => ?_, fun _ => ?_, fun _ => ?_, fun _ => ?_, fun _ => ?_, fun _ => ?_, fun _ => ?_, fun _ => ?_, fun _ => ?_, fun _ => ?_, fun _ => ?_, fun _ => ?_, fun _ => ?_, fun _ => ?_, fun _ _ _ _ _ _ _ _ _ _ _ _ _ _ _ _ _ _ _ _ _ _ _ => next M _ I (by omega)⟩
    · obtain ⟨r, M1, M2, f1, f2, I2⟩ := case_ditch I (xs (nI (6 * c) + 1).toNatClampNeg) (xs (nI (6 * c) + 2).toNatClampNeg) (xs (nI (6 * c) + 3).toNatClampNeg)
      exact b_L_law_140 g lx (by decide) _ M ⟨v1, v2, v3, r, M1, f1, r, M2, f2, fun _ => next M2 _ I2 (by omega), fun e => e rfl⟩
    · obtain ⟨r, M1, M2, f1, f2, I2⟩ := case_band I (xs (nI (6 * c) + 1).toNatClampNeg) (xs (nI (6 * c) + 2).toNatClampNeg) (xs (nI (6 * c) + 3).toNatClampNeg)
      exact b_L_law_183 g lx (by decide) _ M ⟨v1, v2, v3, r, M1, f1, r, M2, f2, fun _ => next M2 _ I2 (by omega), fun e => e rfl⟩
    · obtain ⟨r, M1, M2, f1, f2, I2⟩ := case_told I (xs (nI (6 * c) + 1).toNatClampNeg) (xs (nI (6 * c) + 2).toNatClampNeg)
      exact b_L_law_226 g lx (by decide) _ M ⟨v1, v2, r, M1, f1, r, M2, f2, fun _ => next M2 _ I2 (by omega), fun e => e rfl⟩
    · obtain ⟨r, M1, M2, f1, f2, I2⟩ := case_weir I (xs (nI (6 * c) + 1).toNatClampNeg) (xs (nI (6 * c) + 2).toNatClampNeg) (xs (nI (6 * c) + 3).toNatClampNeg) (xs (nI (6 * c) + 4).toNatClampNeg)
      exact b_L_law_259 g lx (by decide) _ M ⟨v1, v2, v3, v4, r, M1, f1, r, M2, f2, fun _ => next M2 _ I2 (by omega), fun e => e rfl⟩
    · obtain ⟨r, M1, M2, f1, f2, I2⟩ := case_pump I (xs (nI (6 * c) + 1).toNatClampNeg) (xs (nI (6 * c) + 2).toNatClampNeg) (xs (nI (6 * c) + 3).toNatClampNeg) (xs (nI (6 * c) + 4).toNatClampNeg) (xs (nI (6 * c) + 5).toNatClampNeg)
      exact b_L_law_312 g lx (by decide) _ M ⟨v1, v2, v3, v4, v5, r, M1, f1, r, M2, f2, fun _ => next M2 _ I2 (by omega), fun e => e rfl⟩
    · obtain ⟨r, M1, M2, f1, f2, I2⟩ := case_sluice I (xs (nI (6 * c) + 1).toNatClampNeg) (xs (nI (6 * c) + 2).toNatClampNeg)
      exact b_L_law_375 g lx (by decide) _ M ⟨v1, v2, r, M1, f1, r, M2, f2, fun _ => next M2 _ I2 (by omega), fun e => e rfl⟩
    · obtain ⟨r, M1, M2, f1, f2, I2⟩ := case_turn I (by omega) (xs (nI (6 * c) + 1).toNatClampNeg) (if xs (nI (6 * c) + 2).toNatClampNeg = 0 then 0 else 1) ite_01
      exact b_L_law_408 g lx (by decide) _ M ⟨v1, v2, r, M1, f1, r, M2, f2, fun _ => next M2 _ I2 (by omega), fun e => e rfl⟩
    · obtain ⟨r, M1, M2, f1, f2, I2⟩ := case_open I (xs (nI (6 * c) + 1).toNatClampNeg) (if xs (nI (6 * c) + 2).toNatClampNeg = 0 then 0 else 1)
      exact b_L_law_457 g lx (by decide) _ M ⟨v1, v2, r, M1, f1, r, M2, f2, fun _ => next M2 _ I2 (by omega), fun e => e rfl⟩
    · obtain ⟨r, M1, M2, f1, f2, I2⟩ := case_tide I (xs (nI (6 * c) + 1).toNatClampNeg) (xs (nI (6 * c) + 2).toNatClampNeg)
      exact b_L_law_506 g lx (by decide) _ M ⟨v1, v2, r, M1, f1, r, M2, f2, fun _ => next M2 _ I2 (by omega), fun e => e rfl⟩
    · obtain ⟨r, M1, M2, f1, f2, I2⟩ := case_price I (xs (nI (6 * c) + 1).toNatClampNeg) (xs (nI (6 * c) + 2).toNatClampNeg)
      exact b_L_law_539 g lx (by decide) _ M ⟨v1, v2, r, M1, f1, r, M2, f2, fun _ => next M2 _ I2 (by omega), fun e => e rfl⟩
    · obtain ⟨r, M1, M2, f1, f2, I2⟩ := case_step I (by omega) (xs (nI (6 * c) + 1).toNatClampNeg)
      exact b_L_law_572 g lx (by decide) _ M ⟨v1, r, M1, f1, r, M2, f2, fun _ => next M2 _ I2 (by omega), fun e => e rfl⟩
    · obtain ⟨r, M1, M2, f1, f2, I2⟩ := case_passed I (xs (nI (6 * c) + 1).toNatClampNeg) (xs (nI (6 * c) + 2).toNatClampNeg)
      exact b_L_law_595 g lx (by decide) _ M ⟨v1, v2, r, M1, f1, r, M2, f2, fun _ => next M2 _ I2 (by omega), fun e => e rfl⟩
    · obtain ⟨r, M1, M2, f1, f2, I2⟩ := case_world I 
      exact b_L_law_628 g lx (by decide) _ M ⟨r, M1, f1, r, M2, f2, fun _ => next M2 _ I2 (by omega), fun e => e rfl⟩
    · obtain ⟨r, M1, M2, f1, f2, I2⟩ := case_foretell I (xs (nI (6 * c) + 1).toNatClampNeg) (xs (nI (6 * c) + 2).toNatClampNeg) (xs (nI (6 * c) + 3).toNatClampNeg)
      exact b_L_law_641 g lx (by decide) _ M ⟨v1, v2, v3, r, M1, f1, r, M2, f2, fun _ => next M2 _ I2 (by omega), fun e => e rfl⟩
    · obtain ⟨r, M1, M2, f1, f2, I2⟩ := case_plan I (by omega) (xs (nI (6 * c) + 1).toNatClampNeg)
      exact b_L_law_684 g lx (by decide) _ M ⟨v1, r, M1, f1, r, M2, f2, fun _ => next M2 _ I2 (by omega), fun e => e rfl⟩
    · obtain ⟨r, M1, M2, f1, f2, I2⟩ := case_planned I (by omega) (xs (nI (6 * c) + 1).toNatClampNeg) (xs (nI (6 * c) + 2).toNatClampNeg)
      exact b_L_law_707 g lx (by decide) _ M ⟨v1, v2, r, M1, f1, r, M2, f2, fun _ => next M2 _ I2 (by omega), fun e => e rfl⟩
    · obtain ⟨r, M1, M2, f1, f2, I2⟩ := case_judge I (by omega) (xs (nI (6 * c) + 1).toNatClampNeg) (xs (nI (6 * c) + 2).toNatClampNeg) (xs (nI (6 * c) + 3).toNatClampNeg)
      exact b_L_law_741 g lx (by decide) _ M ⟨v1, v2, v3, r, M1, f1, r, M2, f2, fun _ => next M2 _ I2 (by omega), fun e => e rfl⟩
    · obtain ⟨r, M1, M2, f1, f2, I2⟩ := case_follow I (by omega) (xs (nI (6 * c) + 1).toNatClampNeg)
      exact b_L_law_785 g lx (by decide) _ M ⟨v1, r, M1, f1, r, M2, f2, fun _ => next M2 _ I2 (by omega), fun e => e rfl⟩
    · obtain ⟨r, M1, M2, f1, f2, I2⟩ := case_sheet I (xs (nI (6 * c) + 1).toNatClampNeg) (xs (nI (6 * c) + 2).toNatClampNeg) (xs (nI (6 * c) + 3).toNatClampNeg)
      exact b_L_law_808 g lx (by decide) _ M ⟨v1, v2, v3, r, M1, f1, r, M2, f2, fun _ => next M2 _ I2 (by omega), fun e => e rfl⟩
    · obtain ⟨r, M1, M2, f1, f2, I2⟩ := case_lay I (xs (nI (6 * c) + 1).toNatClampNeg) (xs (nI (6 * c) + 2).toNatClampNeg) (xs (nI (6 * c) + 3).toNatClampNeg)
      exact b_L_law_851 g lx (by decide) _ M ⟨v1, v2, v3, r, M1, f1, r, M2, f2, fun _ => next M2 _ I2 (by omega), fun e => e rfl⟩
    · obtain ⟨r, M1, M2, f1, f2, I2⟩ := case_rain I hT (xs (nI (6 * c) + 1).toNatClampNeg) (xs (nI (6 * c) + 2).toNatClampNeg) (xs (nI (6 * c) + 3).toNatClampNeg) (xs (nI (6 * c) + 4).toNatClampNeg)
      exact b_L_law_894 g lx (by decide) _ M ⟨v1, v2, v3, v4, r, M1, f1, r, M2, f2, fun _ => next M2 _ I2 (by omega), fun e => e rfl⟩
    · obtain ⟨r, M1, M2, f1, f2, I2⟩ := case_tides I (xs (nI (6 * c) + 1).toNatClampNeg) (xs (nI (6 * c) + 2).toNatClampNeg) (xs (nI (6 * c) + 3).toNatClampNeg)
      exact b_L_law_947 g lx (by decide) _ M ⟨v1, v2, v3, r, M1, f1, r, M2, f2, fun _ => next M2 _ I2 (by omega), fun e => e rfl⟩
    · obtain ⟨r, M1, M2, f1, f2, I2⟩ := case_count I (xs (nI (6 * c) + 1).toNatClampNeg)
      exact b_L_law_990 g lx (by decide) _ M ⟨v1, r, M1, f1, r, M2, f2, fun _ => next M2 _ I2 (by omega), fun e => e rfl⟩

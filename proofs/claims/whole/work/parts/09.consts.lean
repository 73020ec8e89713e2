theorem kb_100 : (Int8.ofInt (100)).toInt32 = 100 := by decide +kernel
theorem kb_12 : (Int8.ofInt (12)).toInt32 = 12 := by decide +kernel
theorem kb_16 : (Int8.ofInt (16)).toInt32 = 16 := by decide +kernel
theorem kb_23 : (Int8.ofInt (23)).toInt32 = 23 := by decide +kernel
theorem kb_24 : (Int8.ofInt (24)).toInt32 = 24 := by decide +kernel
theorem kb_50 : (Int8.ofInt (50)).toInt32 = 50 := by decide +kernel
theorem kb_6 : (Int8.ofInt (6)).toInt32 = 6 := by decide +kernel
theorem kb_60 : (Int8.ofInt (60)).toInt32 = 60 := by decide +kernel
theorem kb_63 : (Int8.ofInt (63)).toInt32 = 63 := by decide +kernel
theorem kb_8 : (Int8.ofInt (8)).toInt32 = 8 := by decide +kernel
theorem kb_m10 : (Int8.ofInt (-10)).toInt32 = (-10) := by decide +kernel
theorem kb_m11 : (Int8.ofInt (-11)).toInt32 = (-11) := by decide +kernel
theorem kb_m12 : (Int8.ofInt (-12)).toInt32 = (-12) := by decide +kernel
theorem kb_m13 : (Int8.ofInt (-13)).toInt32 = (-13) := by decide +kernel
theorem kb_m14 : (Int8.ofInt (-14)).toInt32 = (-14) := by decide +kernel
theorem kb_m2 : (Int8.ofInt (-2)).toInt32 = (-2) := by decide +kernel
theorem kb_m20 : (Int8.ofInt (-20)).toInt32 = (-20) := by decide +kernel
theorem kb_m3 : (Int8.ofInt (-3)).toInt32 = (-3) := by decide +kernel
theorem kb_m4 : (Int8.ofInt (-4)).toInt32 = (-4) := by decide +kernel
theorem kc_0 : Int32.ofInt (0) = 0 := by decide +kernel
theorem kc_1 : Int32.ofInt (1) = 1 := by decide +kernel
theorem kc_2 : Int32.ofInt (2) = 2 := by decide +kernel
theorem kc_3 : Int32.ofInt (3) = 3 := by decide +kernel
theorem kc_4 : Int32.ofInt (4) = 4 := by decide +kernel
theorem kc_5 : Int32.ofInt (5) = 5 := by decide +kernel
theorem kc_m1 : Int32.ofInt (-1) = (-1) := by decide +kernel
theorem kl_0 : Int64.ofNat ((0 : Fin 2) : Nat) = 0 := by decide +kernel
theorem kl_1 : Int64.ofNat ((1 : Fin 2) : Nat) = 1 := by decide +kernel
theorem ks_1000 : (Int16.ofInt (1000)).toInt32 = 1000 := by decide +kernel
theorem ks_500 : (Int16.ofInt (500)).toInt32 = 500 := by decide +kernel
theorem ks_m1000 : (Int16.ofInt (-1000)).toInt32 = (-1000) := by decide +kernel
theorem ks_m500 : (Int16.ofInt (-500)).toInt32 = (-500) := by decide +kernel
theorem lc_ge {x y : Int64} : 0 ≤ lg_cmp x y ↔ x ≥ y := lg_cmp_ge x y
theorem lc_cases (x y : Int64) : (y < x ∧ lg_cmp x y = 1) ∨ (x = y ∧ lg_cmp x y = 0) ∨ (x < y ∧ lg_cmp x y = -1) := by
  unfold lg_cmp
  by_cases h : y < x
  · left; simp [h]
  · by_cases e : x = y
    · right; left; subst e; simp
    · right; right
      refine ⟨?_, by simp [h, e]⟩
      rw [Int64.lt_iff_toInt_lt] at h ⊢
      have : x.toInt ≠ y.toInt := fun q => e (Int64.toInt_inj.mp q)
      omega
theorem lc_aux {x y : Int64} : (x < y → ¬ y < x ∧ ¬ x = y) := fun h => by
  refine ⟨fun q => ?_, fun q => ?_⟩
  · rw [Int64.lt_iff_toInt_lt] at h q; omega
  · subst q; rw [Int64.lt_iff_toInt_lt] at h; omega
theorem lc_le {x y : Int64} : lg_cmp x y ≤ 0 ↔ x ≤ y := by
  rcases lc_cases x y with ⟨h, e⟩ | ⟨h, e⟩ | ⟨h, e⟩ <;> rw [e]
  · refine ⟨fun q => absurd q (by decide), fun q => ?_⟩
    rw [Int64.lt_iff_toInt_lt] at h; rw [Int64.le_iff_toInt_le] at q; omega
  · subst h; exact ⟨fun _ => by rw [Int64.le_iff_toInt_le]; omega, fun _ => by decide⟩
  · refine ⟨fun _ => ?_, fun _ => by decide⟩
    rw [Int64.lt_iff_toInt_lt] at h; rw [Int64.le_iff_toInt_le]; omega
theorem lc_gt {x y : Int64} : 0 < lg_cmp x y ↔ x > y := by
  rcases lc_cases x y with ⟨h, e⟩ | ⟨h, e⟩ | ⟨h, e⟩ <;> rw [e]
  · exact ⟨fun _ => h, fun _ => by decide⟩
  · subst h; refine ⟨fun q => absurd q (by decide), fun q => ?_⟩
    have q : x < x := q
    rw [Int64.lt_iff_toInt_lt] at q; omega
  · exact ⟨fun q => absurd q (by decide), fun q => absurd q (lc_aux h).1⟩
theorem lc_lt {x y : Int64} : lg_cmp x y < 0 ↔ x < y := by
  rcases lc_cases x y with ⟨h, e⟩ | ⟨h, e⟩ | ⟨h, e⟩ <;> rw [e]
  · exact ⟨fun q => absurd q (by decide), fun q => absurd h (lc_aux q).1⟩
  · subst h; refine ⟨fun q => absurd q (by decide), fun q => ?_⟩
    rw [Int64.lt_iff_toInt_lt] at q; omega
  · exact ⟨fun _ => h, fun _ => by decide⟩
theorem lc_eq {x y : Int64} : lg_cmp x y = 0 ↔ x = y := by
  rcases lc_cases x y with ⟨h, e⟩ | ⟨h, e⟩ | ⟨h, e⟩ <;> rw [e]
  · refine ⟨fun q => absurd q (by decide), fun q => ?_⟩
    subst q; rw [Int64.lt_iff_toInt_lt] at h; omega
  · exact ⟨fun _ => h, fun _ => rfl⟩
  · exact ⟨fun q => absurd q (by decide), fun q => absurd q (lc_aux h).2⟩
theorem lc_ne {x y : Int64} : ¬ lg_cmp x y = 0 ↔ ¬ x = y := not_congr lc_eq
theorem tab_3 {x : Int32} (c0 : ¬ x = 0) (c1 : ¬ x = 1) (c2 : ¬ x = 2) : x.toInt < 0 ∨ 2 < x.toInt := by
  have h0 : x.toInt ≠ 0 := fun h => c0 (Int32.toInt_inj.mp (h.trans (by decide)))
  have h1 : x.toInt ≠ 1 := fun h => c1 (Int32.toInt_inj.mp (h.trans (by decide)))
  have h2 : x.toInt ≠ 2 := fun h => c2 (Int32.toInt_inj.mp (h.trans (by decide)))
  omega
theorem tab_5 {x : Int32} (c0 : ¬ x = 0) (c1 : ¬ x = 1) (c2 : ¬ x = 2) (c3 : ¬ x = 3) (c4 : ¬ x = 4) : x.toInt < 0 ∨ 4 < x.toInt := by
  have h0 : x.toInt ≠ 0 := fun h => c0 (Int32.toInt_inj.mp (h.trans (by decide)))
  have h1 : x.toInt ≠ 1 := fun h => c1 (Int32.toInt_inj.mp (h.trans (by decide)))
  have h2 : x.toInt ≠ 2 := fun h => c2 (Int32.toInt_inj.mp (h.trans (by decide)))
  have h3 : x.toInt ≠ 3 := fun h => c3 (Int32.toInt_inj.mp (h.trans (by decide)))
  have h4 : x.toInt ≠ 4 := fun h => c4 (Int32.toInt_inj.mp (h.trans (by decide)))
  omega
theorem tab_10 {x : Int32} (c0 : ¬ x = 0) (c1 : ¬ x = 1) (c2 : ¬ x = 2) (c3 : ¬ x = 3) (c4 : ¬ x = 4) (c5 : ¬ x = 5) (c6 : ¬ x = 6) (c7 : ¬ x = 7) (c8 : ¬ x = 8) (c9 : ¬ x = 9) : x.toInt < 0 ∨ 9 < x.toInt := by
  have h0 : x.toInt ≠ 0 := fun h => c0 (Int32.toInt_inj.mp (h.trans (by decide)))
  have h1 : x.toInt ≠ 1 := fun h => c1 (Int32.toInt_inj.mp (h.trans (by decide)))
  have h2 : x.toInt ≠ 2 := fun h => c2 (Int32.toInt_inj.mp (h.trans (by decide)))
  have h3 : x.toInt ≠ 3 := fun h => c3 (Int32.toInt_inj.mp (h.trans (by decide)))
  have h4 : x.toInt ≠ 4 := fun h => c4 (Int32.toInt_inj.mp (h.trans (by decide)))
  have h5 : x.toInt ≠ 5 := fun h => c5 (Int32.toInt_inj.mp (h.trans (by decide)))
  have h6 : x.toInt ≠ 6 := fun h => c6 (Int32.toInt_inj.mp (h.trans (by decide)))
  have h7 : x.toInt ≠ 7 := fun h => c7 (Int32.toInt_inj.mp (h.trans (by decide)))
  have h8 : x.toInt ≠ 8 := fun h => c8 (Int32.toInt_inj.mp (h.trans (by decide)))
  have h9 : x.toInt ≠ 9 := fun h => c9 (Int32.toInt_inj.mp (h.trans (by decide)))
  omega
theorem tab_23 {x : Int32} (c0 : ¬ x = 0) (c1 : ¬ x = 1) (c2 : ¬ x = 2) (c3 : ¬ x = 3) (c4 : ¬ x = 4) (c5 : ¬ x = 5) (c6 : ¬ x = 6) (c7 : ¬ x = 7) (c8 : ¬ x = 8) (c9 : ¬ x = 9) (c10 : ¬ x = 10) (c11 : ¬ x = 11) (c12 : ¬ x = 12) (c13 : ¬ x = 13) (c14 : ¬ x = 14) (c15 : ¬ x = 15) (c16 : ¬ x = 16) (c17 : ¬ x = 17) (c18 : ¬ x = 18) (c19 : ¬ x = 19) (c20 : ¬ x = 20) (c21 : ¬ x = 21) (c22 : ¬ x = 22) : x.toInt < 0 ∨ 22 < x.toInt := by
  have h0 : x.toInt ≠ 0 := fun h => c0 (Int32.toInt_inj.mp (h.trans (by decide)))
  have h1 : x.toInt ≠ 1 := fun h => c1 (Int32.toInt_inj.mp (h.trans (by decide)))
  have h2 : x.toInt ≠ 2 := fun h => c2 (Int32.toInt_inj.mp (h.trans (by decide)))
  have h3 : x.toInt ≠ 3 := fun h => c3 (Int32.toInt_inj.mp (h.trans (by decide)))
  have h4 : x.toInt ≠ 4 := fun h => c4 (Int32.toInt_inj.mp (h.trans (by decide)))
  have h5 : x.toInt ≠ 5 := fun h => c5 (Int32.toInt_inj.mp (h.trans (by decide)))
  have h6 : x.toInt ≠ 6 := fun h => c6 (Int32.toInt_inj.mp (h.trans (by decide)))
  have h7 : x.toInt ≠ 7 := fun h => c7 (Int32.toInt_inj.mp (h.trans (by decide)))
  have h8 : x.toInt ≠ 8 := fun h => c8 (Int32.toInt_inj.mp (h.trans (by decide)))
  have h9 : x.toInt ≠ 9 := fun h => c9 (Int32.toInt_inj.mp (h.trans (by decide)))
  have h10 : x.toInt ≠ 10 := fun h => c10 (Int32.toInt_inj.mp (h.trans (by decide)))
  have h11 : x.toInt ≠ 11 := fun h => c11 (Int32.toInt_inj.mp (h.trans (by decide)))
  have h12 : x.toInt ≠ 12 := fun h => c12 (Int32.toInt_inj.mp (h.trans (by decide)))
  have h13 : x.toInt ≠ 13 := fun h => c13 (Int32.toInt_inj.mp (h.trans (by decide)))
  have h14 : x.toInt ≠ 14 := fun h => c14 (Int32.toInt_inj.mp (h.trans (by decide)))
  have h15 : x.toInt ≠ 15 := fun h => c15 (Int32.toInt_inj.mp (h.trans (by decide)))
  have h16 : x.toInt ≠ 16 := fun h => c16 (Int32.toInt_inj.mp (h.trans (by decide)))
  have h17 : x.toInt ≠ 17 := fun h => c17 (Int32.toInt_inj.mp (h.trans (by decide)))
  have h18 : x.toInt ≠ 18 := fun h => c18 (Int32.toInt_inj.mp (h.trans (by decide)))
  have h19 : x.toInt ≠ 19 := fun h => c19 (Int32.toInt_inj.mp (h.trans (by decide)))
  have h20 : x.toInt ≠ 20 := fun h => c20 (Int32.toInt_inj.mp (h.trans (by decide)))
  have h21 : x.toInt ≠ 21 := fun h => c21 (Int32.toInt_inj.mp (h.trans (by decide)))
  have h22 : x.toInt ≠ 22 := fun h => c22 (Int32.toInt_inj.mp (h.trans (by decide)))
  omega

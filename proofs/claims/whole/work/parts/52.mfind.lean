/-! the model: findPlan -/
def OM (M M' : MM) : Prop := (∀ j, j ≠ 72 → ¬ (100 ≤ j ∧ j ≤ 103) → M'.1 j = M.1 j) ∧ ∀ i, i ≠ 38 → M'.1 72 i = M.1 72 i
theorem OM.trans {M M' M'' : MM} (h : OM M M') (h2 : OM M' M'') : OM M M'' := ⟨fun j a b => by rw [h2.1 j a b, h.1 j a b], fun i a => by rw [h2.2 i a, h.2 i a]⟩
theorem EM.congr {X : PX} {M M' : MM} (h : OM M M') (E : EM X M) : EM X M' := by
  obtain ⟨o1, o2⟩ := h
  obtain ⟨e0, e1, e2, e3, e4, ⟨nwd, t1, t2, t3, t4, t5⟩, e6, e7, e8⟩ := E
  refine ⟨fun k hk => ?_, ?_, ?_, ?_, ?_, ⟨nwd, t1, ?_, t3, fun w hw k hk => ?_, t5⟩, ?_, fun p hp => ?_, ?_⟩
  · rw [e0 k hk]
    have := mp_le k hk
    unfold mS
    rw [o1 _ (by omega) (by omega)]
  · rw [o2 0 (by decide)]; exact e1
  · rw [o2 8 (by decide)]; exact e2
  · rw [o2 13 (by decide)]; exact e3
  · rw [o2 21 (by decide)]; exact e4
  · rw [o2 32 (by decide)]; exact t2
  · rw [o1 99 (by decide) (by decide)]; exact t4 w hw k hk
  · rw [o2 27 (by decide)]; exact e6
  · rw [o1 89 (by decide) (by decide)]; exact e7 p hp
  · rw [o1 75 (by decide) (by decide)]; exact e8
theorem nI_n4 {y : Nat} (h : y < 4096) : ¬ nI y = -4 := fun e => by
  have := congrArg Int32.toInt e
  rw [nI_toInt (by omega), show (-4 : Int32).toInt = -4 by decide] at this
  omega
/-- the model's best so far -/
def BF (X : PX) (n i : Nat) (N : MM) : Prop := (N.1 72 38 = -4 ∧ ∀ y, y < i → isP X n y → ¬ Wel X n y) ∨ ∃ B : KY, N.1 72 38 = nI B.2.2 ∧ N.2 72 39 = lN B.1 ∧ N.2 72 40 = lN B.2.1 ∧ B.1 ≤ 1099511627776 ∧ B.2.1 ≤ 2400 ∧ (∃ y, y < i ∧ isP X n y ∧ Wel X n y ∧ B = key X n y) ∧ ∀ y, y < i → isP X n y → Wel X n y → ¬ kl (key X n y) B
theorem fn_findPlan {X : PX} {M : MM} (V : VX X) (E : EM X M) {n : Nat} (h1 : 1 ≤ n) (hn : n ≤ 6) : ∃ M' B, Fn 4 mX10_findPlan [.ref 72, .int (nI n)] M none M' ∧ OM M M' ∧ Best X n B ∧ M'.1 72 38 = nI B.2.2 ∧ M'.2 72 39 = lN B.1 ∧ M'.2 72 40 = lN B.2.1 := by
  have hpn := pow_n hn
  have st : ∀ i, i ≤ 4 ^ n → ∃ N : MM, (∀ G, Good G mX10_findPlan 4 → ∀ r C, GoodR G r C → At_X10_findPlan_8 G (nI n) (nI i) N → At_X10_findPlan_8 G (nI n) 0 (ui M 72 38 (-4))) ∧ OM M N ∧ BF X n i N := by
    intro i
    induction i with
    | zero => exact fun _ => ⟨ui M 72 38 (-4), fun G g r C gr h => h, ⟨fun j h1 _ => ui_diff h1, fun i hi => ui_f hi⟩, Or.inl ⟨ui_at, fun y hy => absurd hy (by omega)⟩⟩
    | succ i ih =>
      intro hi
      obtain ⟨N, k1, k2, k3⟩ := ih (by omega)
      have EN : EM X N := E.congr k2
      have hi4 : i < 4096 := by omega
      have hlt : ¬ ((1 : Int32) <<< ((2 * nI n) &&& 31)) ≤ nI i := by rw [sh_n hn, nI_leI (by omega) (by omega)]; omega
      -- nothing new at i
      have skip : (isP X n i → Wel X n i → False) → BF X n (i + 1) N := fun hno => by
        rcases k3 with ⟨q1, q2⟩ | ⟨B, q1, q2, q3, q4, q5, ⟨y, a1, a2, a3, a4⟩, q7⟩
        · refine Or.inl ⟨q1, fun y hy b1 b2 => ?_⟩
          by_cases e : y = i
          · subst e; exact hno b1 b2
          · exact q2 y (by omega) b1 b2
        · refine Or.inr ⟨B, q1, q2, q3, q4, q5, ⟨y, by omega, a2, a3, a4⟩, fun z hz b1 b2 => ?_⟩
          by_cases e : z = i
          · subst e; exact (hno b1 b2).elim
          · exact q7 z (by omega) b1 b2
      by_cases hP : isP X n i
      · have fP := fn_X10_isPlan V EN h1 hn (Or.inl ⟨i, by omega, rfl, hP, rfl⟩ : plN X n (nI i) 1)
        by_cases hWl : Wel X n i
        · have fW := fn_X10_isWell V EN hi4 hn (Or.inl ⟨hWl, rfl⟩ : Flg (Wel X n i) 1)
          obtain ⟨N2, fB, o1, o2⟩ := fn_X10_breachOf V EN hi4 hn hP
          have ON2 : OM N N2 := ⟨fun j _ h2 => o1 j h2, fun j _ => by rw [o1 72 (by omega)]⟩
          have EN2 : EM X N2 := EN.congr ON2
          have fC := fn_X10_costOf V EN2 hi4 hn hP
          have n72 : N2.1 72 = N.1 72 := o1 72 (by omega)
          have bl := bT_lt V i n hn
          have cl := cT_lt V i n hn
          -- a new best
          have new : (∀ y, y < i → isP X n y → Wel X n y → ¬ kl (key X n y) (key X n i)) → BF X n (i + 1) (ul (ul (ui N2 72 38 (nI i)) 72 39 (lN (bT X i n))) 72 40 (lN (cT X i n))) := fun hb => by
            refine Or.inr ⟨key X n i, ?_, ?_, ?_, by show bT X i n ≤ _; omega, cl, ⟨i, by omega, hP, hWl, rfl⟩, fun y hy b1 b2 => ?_⟩
            · show (ui N2 72 38 (nI i)).1 72 38 = _
              rw [ui_at]; rfl
            · simp [ul, key]
            · simp [ul, key]
            · by_cases e : y = i
              · subst e; exact kl_ir _
              · exact hb y (by omega) b1 b2
          have onew : OM M (ul (ul (ui N2 72 38 (nI i)) 72 39 (lN (bT X i n))) 72 40 (lN (cT X i n))) := (k2.trans ON2).trans ⟨fun j h1 _ => ui_diff h1, fun i hi => ui_f hi⟩
          have front : ∀ G, Good G mX10_findPlan 4 → ∀ r C, GoodR G r C → ((N2.1 72 38 = ((-4) : Int32) → (∀ M19 : MM, M19 = ui N2 72 38 (nI i) → (∀ M20 : MM, M20 = ul M19 72 39 (lN (bT X i n)) → (∀ M21 : MM, M21 = ul M20 72 40 (lN (cT X i n)) → (∀ x22 : Int32, x22 = nI i + 1 → At_X10_findPlan_8 G (nI n) x22 M21))))) ∧ (¬ (N2.1 72 38 = ((-4) : Int32)) → ((lN (bT X i n) < (N2.2 72 39 : Int64) → (∀ M24 : MM, M24 = ui N2 72 38 (nI i) → (∀ M25 : MM, M25 = ul M24 72 39 (lN (bT X i n)) → (∀ M26 : MM, M26 = ul M25 72 40 (lN (cT X i n)) → (∀ x27 : Int32, x27 = nI i + 1 → At_X10_findPlan_8 G (nI n) x27 M26))))) ∧ (¬ (lN (bT X i n) < (N2.2 72 39 : Int64)) → ((¬ lN (bT X i n) = (N2.2 72 39 : Int64) → (∀ x29 : Int32, x29 = nI i + 1 → At_X10_findPlan_8 G (nI n) x29 N2)) ∧ (lN (bT X i n) = (N2.2 72 39 : Int64) → ((lN (cT X i n) ≥ (N2.2 72 40 : Int64) → (∀ x31 : Int32, x31 = nI i + 1 → At_X10_findPlan_8 G (nI n) x31 N2)) ∧ (¬ (lN (cT X i n) ≥ (N2.2 72 40 : Int64)) → (∀ M32 : MM, M32 = ui N2 72 38 (nI i) → (∀ M33 : MM, M33 = ul M32 72 39 (lN (bT X i n)) → (∀ M34 : MM, M34 = ul M33 72 40 (lN (cT X i n)) → (∀ x35 : Int32, x35 = nI i + 1 → At_X10_findPlan_8 G (nI n) x35 M34)))))))))))) → At_X10_findPlan_8 G (nI n) (nI i) N := fun G g r C gr hgo =>
            b_X10_findPlan_8 g gr (by decide) _ _ N ⟨fun c9 => absurd c9 hlt, fun _ => ⟨_, _, fP, fun c9 => absurd c9 (by decide), fun _ => ⟨_, _, fW, fun c9 => absurd c9 (by decide), fun _ => ⟨_, _, fB, _, _, fC, hgo⟩⟩⟩⟩
          rcases k3 with ⟨q1, q2⟩ | ⟨B, q1, q2, q3, q4, q5, ⟨y, a1, a2, a3, a4⟩, q7⟩
          · refine ⟨_, fun G g r C gr h => k1 G g r C gr (front G g r C gr ⟨fun _ Q1 e1 Q2 e2 Q3 e3 z ez => ?_, fun c9 => absurd (by rw [n72]; exact q1) c9⟩), onew, new fun y hy b1 b2 => absurd b2 (q2 y hy b1)⟩
            rw [e3, e2, e1, ez, nI_1]
            exact h
          · have hn4 : ¬ N2.1 72 38 = -4 := by
              rw [n72, q1, a4]
              exact nI_n4 (show y < 4096 by omega)
            have e1 : lN (bT X i n) < lN B.1 ↔ bT X i n < B.1 := pk_lLT (by omega) (by omega)
            have e2 : lN (bT X i n) = lN B.1 ↔ bT X i n = B.1 := pk_lEQ (by omega) (by omega)
            have e3 : lN B.2.1 ≤ lN (cT X i n) ↔ B.2.1 ≤ cT X i n := pk_lLE (by omega) (by omega)
            have hB3 : B.2.2 = y := by rw [a4]; rfl
            have hkl : kl (key X n i) B ↔ (bT X i n < B.1 ∨ (bT X i n = B.1 ∧ cT X i n < B.2.1)) := by
              unfold kl key
              simp only
              constructor <;> intro h <;> omega
            by_cases hb : kl (key X n i) B
            · refine ⟨_, fun G g r C gr h => k1 G g r C gr (front G g r C gr ⟨fun c9 => absurd c9 hn4, fun _ => ⟨fun _ Q1 f1 Q2 f2 Q3 f3 z ez => ?_, fun c => ⟨fun c2 => ?_, fun c2 => ⟨fun c3 => ?_, fun _ Q1 f1 Q2 f2 Q3 f3 z ez => ?_⟩⟩⟩⟩), onew, new fun z hz b1 b2 h9 => q7 z hz b1 b2 (kl_tr h9 hb)⟩
              · rw [f3, f2, f1, ez, nI_1]
                exact h
              · exfalso
                rw [o2, q2] at c c2
                rw [e1] at c
                rw [e2] at c2
                rw [hkl] at hb
                omega
              · exfalso
                rw [o2, q2] at c c2
                rw [o2, q3] at c3
                rw [e1] at c
                rw [e2] at c2
                have c3 := e3.mp c3
                rw [hkl] at hb
                omega
              · rw [f3, f2, f1, ez, nI_1]
                exact h
            · refine ⟨N2, fun G g r C gr h => k1 G g r C gr (front G g r C gr ⟨fun c9 => absurd c9 hn4, fun _ => ⟨fun c => ?_, fun c => ⟨fun c2 z ez => ?_, fun c2 => ⟨fun c3 z ez => ?_, fun c3 => ?_⟩⟩⟩⟩), k2.trans ON2, Or.inr ⟨B, by rw [n72]; exact q1, by rw [o2]; exact q2, by rw [o2]; exact q3, q4, q5, ⟨y, by omega, a2, a3, a4⟩, fun z hz b1 b2 => ?_⟩⟩
              · exfalso
                rw [o2, q2, e1] at c
                exact hb (hkl.mpr (Or.inl c))
              · rw [ez, nI_1]; exact h
              · rw [ez, nI_1]; exact h
              · exfalso
                rw [o2, q2] at c2
                rw [o2, q3] at c3
                rw [e2] at c2
                have c3 : ¬ B.2.1 ≤ cT X i n := fun h9 => c3 (e3.mpr h9)
                exact hb (hkl.mpr (Or.inr ⟨c2, by omega⟩))
              · by_cases e : z = i
                · subst e; exact hb
                · exact q7 z (by omega) b1 b2
        · have fW := fn_X10_isWell V EN hi4 hn (Or.inr ⟨hWl, rfl⟩ : Flg (Wel X n i) 0)
          refine ⟨N, fun G g r C gr h => k1 G g r C gr (b_X10_findPlan_8 g gr (by decide) _ _ N ⟨fun c9 => absurd c9 hlt, fun _ => ⟨_, _, fP, fun c9 => absurd c9 (by decide), fun _ => ⟨_, _, fW, fun _ z ez => ?_, fun c9 => absurd rfl c9⟩⟩⟩), k2, skip fun _ h => hWl h⟩
          rw [ez, nI_1]
          exact h
      · have fP := fn_X10_isPlan V EN h1 hn (Or.inr ⟨fun x hx e => by rw [← (nI_eq (by omega) (by omega)).mp e]; exact hP, rfl⟩ : plN X n (nI i) 0)
        refine ⟨N, fun G g r C gr h => k1 G g r C gr (b_X10_findPlan_8 g gr (by decide) _ _ N ⟨fun c9 => absurd c9 hlt, fun _ => ⟨_, _, fP, fun _ z ez => ?_, fun c9 => absurd rfl c9⟩⟩), k2, skip fun h _ => hP h⟩
        rw [ez, nI_1]
        exact h
  obtain ⟨N, k1, k2, k3⟩ := st (4 ^ n) (Nat.le_refl _)
  rcases k3 with ⟨q1, q2⟩ | ⟨B, q1, q2, q3, q4, q5, q6, q7⟩
  · exact absurd (wel_0 X n) (q2 0 (Nat.pow_pos (by omega)) (isP_0 X n))
  · refine ⟨N, B, fn_intro ok_X10_findPlan (Nat.le_of_ble_eq_true rfl) fun G g gr => b_X10_findPlan_0 g gr (by decide) _ M fun Q e => ?_, k2, ⟨q6, q7⟩, q1, q2, q3⟩
    rw [e]
    exact k1 G g _ _ gr (b_X10_findPlan_8 g gr (by decide) _ _ N ⟨fun _ => ⟨rfl, rfl⟩, fun c => absurd (by rw [sh_n hn]; exact nI_le (Nat.le_refl _) (by omega)) c⟩)

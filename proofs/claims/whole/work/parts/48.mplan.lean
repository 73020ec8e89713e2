/-! the model: what it asks of a plan -/
def EM (X : PX) (M : MM) : Prop := (∀ k ∈ rowL, xS X k = mS M k) ∧ M.1 72 0 = nI (xd X) ∧ M.1 72 8 = nI (xw X) ∧ M.1 72 13 = nI (xp X) ∧ M.1 72 21 = nI (xs X) ∧ (∃ nwd : Nat, nwd ≤ 3 ∧ M.1 72 32 = nI nwd ∧ max nwd 1 = xt X ∧ (∀ w, w < nwd → ∀ k, k < 6 → M.1 99 (6 * w + k) = xR X w k) ∧ (nwd = 0 → ∀ k, k < 6 → xR X 0 k = 0)) ∧ M.1 72 27 = nI (xh X) ∧ (∀ p, p < 4 → M.1 89 p = bitI (xb X) p) ∧ M.1 75 = xW X
section mplan
variable {X : PX} {M : MM}
theorem fn_isIn {x k p : Nat} (hx : x < 4096) (hk : k < 6) (hp : p < 2) : Fn 1 mX10_isIn [.ref 72, .int (nI x), .int (nI k), .int (nI p)] M (some (.int (if tl x k p then 1 else 0))) M := fn_intro ok_X10_isIn (Nat.le_of_ble_eq_true rfl) fun G g gr => by
  refine b_X10_isIn_0 g gr (by decide) _ _ _ M ⟨ite_10, ?_⟩
  rw [bit_of hx hk hp]
  cases tl x k p <;> exact ⟨rfl, rfl⟩
def wasF (X : PX) (x p : Nat) : Nat → Bool
  | 0 => (xb X).testBit p
  | k + 1 => tl x k p
def rnF (X : PX) (x p : Nat) : Nat → Nat
  | 0 => 6
  | k + 1 => if tl x k p then (if wasF X x p k then rnF X x p k + 1 else 1) else 6
theorem rnF_le (X : PX) (x p : Nat) : ∀ k, rnF X x p k ≤ 6 + k
  | 0 => Nat.le_refl _
  | k + 1 => by
    have := rnF_le X x p k
    unfold rnF
    split
    · split <;> omega
    · omega
theorem rn_run (X : PX) (x p : Nat) : ∀ k, (run x p k = 0 → rnF X x p k = 6 ∧ (wasF X x p k = true → k = 0)) ∧ (1 ≤ run x p k → wasF X x p k = true ∧ (run x p k = k ∧ (xb X).testBit p = true → rnF X x p k = 6 + run x p k) ∧ (¬ (run x p k = k ∧ (xb X).testBit p = true) → rnF X x p k = run x p k))
  | 0 => ⟨fun _ => ⟨rfl, fun _ => rfl⟩, fun h => absurd h (by unfold run; omega)⟩
  | k + 1 => by
    obtain ⟨h1, h2⟩ := rn_run X x p k
    have hle := run_le x p k
    cases ht : tl x k p with
    | false =>
      have e1 : run x p (k + 1) = 0 := run_off ht
      have e2 : rnF X x p (k + 1) = 6 := by unfold rnF; rw [ht]; rfl
      have e3 : wasF X x p (k + 1) = false := ht
      rw [e1, e2, e3]
      exact ⟨fun _ => ⟨rfl, fun h => absurd h (by decide)⟩, fun h => absurd h (by omega)⟩
    | true =>
      have e1 : run x p (k + 1) = run x p k + 1 := run_on ht
      have e2 : rnF X x p (k + 1) = if wasF X x p k then rnF X x p k + 1 else 1 := by
        show (if tl x k p then (if wasF X x p k then rnF X x p k + 1 else 1) else 6) = _
        rw [ht]
        rfl
      have e3 : wasF X x p (k + 1) = true := ht
      rw [e1, e2, e3]
      refine ⟨fun h => absurd h (by omega), fun _ => ⟨rfl, fun h => ?_, fun h => ?_⟩⟩
      · by_cases c : run x p k = 0
        · have k0 : k = 0 := by omega
          subst k0
          have : wasF X x p 0 = true := h.2
          rw [if_pos this, (h1 c).1, c]
        · obtain ⟨q1, q2, -⟩ := h2 (by omega)
          rw [if_pos q1, q2 ⟨by omega, h.2⟩]
          omega
      · by_cases c : run x p k = 0
        · cases hw : wasF X x p k with
          | false => rw [c]; rfl
          | true =>
            have k0 := (h1 c).2 hw
            subst k0
            exact absurd ⟨by omega, hw⟩ h
        · obtain ⟨q1, -, q3⟩ := h2 (by omega)
          rw [if_pos q1, q3 (fun e => h ⟨by omega, e.2⟩)]
theorem fitP_m (V : VX X) {x k p : Nat} (hp : p < xp X) (hk : k < 6) : fitP X k x p = true ↔ ((tl x k p = true → pz (xS X) p (xh X + k) = false) ∧ (tl x k p = false → wasF X x p k = true → xS X 19 p ≤ nI (rnF X x p k))) := by
  obtain ⟨l, l1, l2, el⟩ := V.1.l hp
  have hle := run_le x p k
  have hr := rnF_le X x p k
  have hdr : (xS X 19 p ≤ nI (run x p k)) ↔ l ≤ run x p k := by rw [el, nI_leI (by omega) (by omega)]
  have hdf : (xS X 19 p ≤ nI (rnF X x p k)) ↔ l ≤ rnF X x p k := by rw [el, nI_leI (by omega) (by omega)]
  obtain ⟨h1, h2⟩ := rn_run X x p k
  unfold fitP mayE
  cases ht : tl x k p with
  | true =>
    cases pz (xS X) p (xh X + k) <;> simp
  | false =>
    simp only [Bool.false_eq_true, if_false, false_implies, true_and, forall_const, Bool.or_eq_true, beq_iff_eq, decide_eq_true_eq, Bool.and_eq_true, hdr, hdf]
    by_cases c : run x p k = 0
    · obtain ⟨q1, q2⟩ := h1 c
      constructor
      · intro _ _
        rw [q1]; omega
      · intro _
        exact Or.inl (Or.inl c)
    · obtain ⟨q1, q2, q3⟩ := h2 (by omega)
      by_cases c2 : run x p k = k ∧ (xb X).testBit p = true
      · have := q2 c2
        constructor
        · intro _ _; omega
        · intro _; exact Or.inr c2
      · have := q3 c2
        constructor
        · intro h _
          rcases h with (h | h) | h
          · exact absurd h c
          · omega
          · exact absurd h c2
        · intro h
          have := h q1
          exact Or.inl (Or.inr (by omega))
/-- a flag: 1 or 0 -/
def Flg (A : Prop) (v : Int32) : Prop := (A ∧ v = 1) ∨ (¬ A ∧ v = 0)
theorem Flg.i {A : Prop} {v : Int32} (h : Flg A v) : v = 0 ∨ v = 1 := by
  rcases h with ⟨_, h⟩ | ⟨_, h⟩
  · exact Or.inr h
  · exact Or.inl h
theorem Flg.congr {A B : Prop} {v : Int32} (e : A ↔ B) (h : Flg A v) : Flg B v := by
  rcases h with ⟨h, e2⟩ | ⟨h, e2⟩
  · exact Or.inl ⟨e.mp h, e2⟩
  · exact Or.inr ⟨fun q => h (e.mpr q), e2⟩
theorem Flg.uniq {A : Prop} {v w : Int32} (h : Flg A v) (h2 : Flg A w) : v = w := by
  rcases h with ⟨h, rfl⟩ | ⟨h, rfl⟩ <;> rcases h2 with ⟨h2, rfl⟩ | ⟨h2, rfl⟩
  · rfl
  · exact absurd h h2
  · exact absurd h2 h
  · rfl
theorem fn_X10_isWell (V : VX X) (E : EM X M) {x n : Nat} {v : Int32} (hx : x < 4096) (hn : n ≤ 6) (hv : Flg (Wel X n x) v) : Fn 2 mX10_isWell [.ref 72, .int (nI n), .int (nI x)] M (some (.int v)) M := fn_intro ok_X10_isWell (Nat.le_of_ble_eq_true rfl) fun G g gr => by
  have h4 := V.1.p4
  have hh := V.2.2.1
  refine b_X10_isWell_0 g gr (by decide) _ _ M ?_
  -- the pumps from p on
  have loop : ∀ (m p : Nat), p + m = min (xp X) 2 → ∀ u, Flg (∀ q, q < p → ∀ k, k < n → fitP X k x q = true) u → At_X10_isWell_5 G (nI n) (nI x) u (nI p) M := by
    intro m
    induction m with
    | zero =>
      intro p hp u hu
      have hf : (∀ q, q < p → ∀ k, k < n → fitP X k x q = true) ↔ Wel X n x := ⟨fun h k hk q hq => h q (by omega) k hk, fun h q hq k hk => h k hk q (by omega)⟩
      have := hv.uniq (hu.congr hf)
      subst this
      refine b_X10_isWell_5 g gr (by decide) _ _ _ _ M ⟨fun _ => ⟨hu.i, rfl, rfl⟩, fun c => ⟨fun _ => ⟨hu.i, rfl, rfl⟩, fun c2 => ?_⟩⟩
      exfalso
      rw [show (2 : Int32) = nI 2 from rfl, nI_leI (by omega) (by omega)] at c
      rw [E.2.2.2.1, nI_leI (by omega) (by omega)] at c2
      omega
    | succ m ih =>
      intro p hp u hu
      have cp : (nI p).toNatClampNeg = p := nI_clamp (by omega)
      have hpp : p < xp X := by omega
      have inner : ∀ (i k : Nat), k + i = n → ∀ u, Flg ((∀ q, q < p → ∀ k, k < n → fitP X k x q = true) ∧ ∀ j, j < k → fitP X j x p = true) u → At_X10_isWell_36 G (nI n) (nI x) u (nI p) (if wasF X x p k then 1 else 0) (nI (rnF X x p k)) (nI k) M := by
        intro i
        induction i with
        | zero =>
          intro k hk u hu
          refine b_X10_isWell_36 g gr (by decide) _ _ _ _ _ _ _ M ⟨fun _ y ey => ?_, fun c => absurd (nI_le (by omega) (by omega)) c⟩
          rw [ey, nI_1]
          refine ih (p + 1) (by omega) u (hu.congr ⟨fun h q hq k' hk' => ?_, fun h => ⟨fun q hq k' hk' => h q (by omega) k' hk', fun j hj => h p (by omega) j (by omega)⟩⟩)
          by_cases e : q = p
          · subst e; exact h.2 k' (by omega)
          · exact h.1 q (by omega) k' hk'
        | succ i ihi =>
          intro k hk u hu
          have hk6 : k < 6 := by omega
          have fm := fitP_m V (x := x) hpp hk6
          have hr := rnF_le X x p k
          -- behind hour k
          have nxt : ∀ u', Flg (((∀ q, q < p → ∀ k, k < n → fitP X k x q = true) ∧ ∀ j, j < k → fitP X j x p = true) ∧ fitP X k x p = true) u' → At_X10_isWell_140 G (nI n) (nI x) u' (nI p) (if wasF X x p k then 1 else 0) (if (if tl x k p then (1 : Int32) else 0) = 0 then nI (rnF X x p k) else (if (if wasF X x p k then (1 : Int32) else 0) = 0 then 1 else (nI (rnF X x p k) + 1))) (nI k) (if tl x k p then 1 else 0) u' M := fun u' hu' => by
            refine b_X10_isWell_140 g gr (by decide) _ _ _ _ _ _ _ _ _ M ?_
            intro y ey z ez
            have e2 : y = nI (rnF X x p (k + 1)) := by
              rw [ey]
              show _ = nI (if tl x k p then (if wasF X x p k then rnF X x p k + 1 else 1) else 6)
              cases tl x k p with
              | false => rfl
              | true =>
                cases wasF X x p k with
                | false => rfl
                | true => exact nI_1 _
            rw [e2, ez, nI_1]
            refine ihi (k + 1) (by omega) u' (hu'.congr ⟨fun h => ⟨h.1.1, fun j hj => ?_⟩, fun h => ⟨⟨h.1, fun j hj => h.2 j (by omega)⟩, h.2 k (by omega)⟩⟩)
            by_cases e : j = k
            · subst e; exact h.2
            · exact h.1.2 j (by omega)
          have any140 : ∀ a u', Flg (((∀ q, q < p → ∀ k, k < n → fitP X k x q = true) ∧ ∀ j, j < k → fitP X j x p = true) ∧ fitP X k x p = true) u' → At_X10_isWell_140 G (nI n) (nI x) a (nI p) (if wasF X x p k then 1 else 0) (if (if tl x k p then (1 : Int32) else 0) = 0 then nI (rnF X x p k) else (if (if wasF X x p k then (1 : Int32) else 0) = 0 then 1 else (nI (rnF X x p k) + 1))) (nI k) (if tl x k p then 1 else 0) u' M := fun a u' hu' => by
            refine b_X10_isWell_140 g gr (by decide) _ _ _ _ _ _ _ _ _ M ?_
            intro y ey z ez
            have e2 : y = nI (rnF X x p (k + 1)) := by
              rw [ey]
              show _ = nI (if tl x k p then (if wasF X x p k then rnF X x p k + 1 else 1) else 6)
              cases tl x k p with
              | false => rfl
              | true =>
                cases wasF X x p k with
                | false => rfl
                | true => exact nI_1 _
            rw [e2, ez, nI_1]
            refine ihi (k + 1) (by omega) u' (hu'.congr ⟨fun h => ⟨h.1.1, fun j hj => ?_⟩, fun h => ⟨⟨h.1, fun j hj => h.2 j (by omega)⟩, h.2 k (by omega)⟩⟩)
            by_cases e : j = k
            · subst e; exact h.2
            · exact h.1.2 j (by omega)
          -- t: fine so far and no pause
          have mid : ∀ t, Flg (((∀ q, q < p → ∀ k, k < n → fitP X k x q = true) ∧ ∀ j, j < k → fitP X j x p = true) ∧ (tl x k p = true → pz (xS X) p (xh X + k) = false)) t → At_X10_isWell_83 G (nI n) (nI x) u (nI p) (if wasF X x p k then 1 else 0) (nI (rnF X x p k)) (nI k) (if tl x k p then 1 else 0) t M := fun t ht => by
            refine b_X10_isWell_83 g gr (by decide) _ _ _ _ _ _ _ _ _ M ?_
            intro y ey
            rw [ey]
            refine ⟨fun c => ?_, fun c => ⟨fun c2 => ?_, fun c2 => ⟨fun c3 => ?_, fun c3 => ⟨vp_in_nI (by omega) (by omega), ?_⟩⟩⟩⟩
            · refine any140 _ 0 (Or.inr ⟨fun h => ?_, rfl⟩)
              rcases ht with ⟨_, h2⟩ | ⟨h2, _⟩
              · rw [h2] at c; exact absurd c (by decide)
              · exact h2 ⟨h.1, (fm.mp h.2).1⟩
            · refine any140 _ 1 (Or.inl ⟨?_, rfl⟩)
              rcases ht with ⟨h2, _⟩ | ⟨_, h2⟩
              · refine ⟨h2.1, fm.mpr ⟨h2.2, fun _ h3 => ?_⟩⟩
                rw [h3] at c2
                exact absurd c2 (by decide)
              · exact absurd h2 c
            · refine any140 _ 1 (Or.inl ⟨?_, rfl⟩)
              rcases ht with ⟨h2, _⟩ | ⟨_, h2⟩
              · refine ⟨h2.1, fm.mpr ⟨h2.2, fun h3 _ => ?_⟩⟩
                rw [h3] at c3
                exact absurd rfl c3
              · exact absurd h2 c
            · have tf : tl x k p = false := by
                cases hq : tl x k p with
                | false => rfl
                | true => rw [hq] at c3; exact absurd c3 (by decide)
              have wt : wasF X x p k = true := by
                cases hq : wasF X x p k with
                | true => rfl
                | false => rw [hq] at c2; exact absurd rfl c2
              have ht2 : (∀ q, q < p → ∀ k, k < n → fitP X k x q = true) ∧ ∀ j, j < k → fitP X j x p = true := by
                rcases ht with ⟨h2, _⟩ | ⟨_, h2⟩
                · exact h2.1
                · exact absurd h2 c
              have e87 : M.1 87 p = xS X 19 p := by rw [E.1 19 (by decide)]; rfl
              have ey2 : (if (if tl x k p then (1 : Int32) else 0) = 0 then nI (rnF X x p k) else (if (if wasF X x p k then (1 : Int32) else 0) = 0 then 1 else (nI (rnF X x p k) + 1))) = nI (rnF X x p k) := by rw [tf]; rfl
              have a0 := any140 t 0
              have a1 := any140 t 1
              rw [ey2] at a0 a1 ⊢
              rw [cp, e87]
              refine ⟨fun c4 => a0 (Or.inr ⟨fun h => ?_, rfl⟩), fun c4 => a1 (Or.inl ⟨⟨ht2, fm.mpr ⟨fun h => ?_, fun _ _ => ?_⟩⟩, rfl⟩)⟩
              · have := (fm.mp h.2).2 tf wt
                rw [Int32.lt_iff_toInt_lt] at c4
                rw [Int32.le_iff_toInt_le] at this
                omega
              · rw [tf] at h; exact absurd h (by decide)
              · rw [Int32.lt_iff_toInt_lt] at c4
                rw [Int32.le_iff_toInt_le]
                omega
          refine b_X10_isWell_36 g gr (by decide) _ _ _ _ _ _ _ M ⟨fun c => ?_, fun _ => ⟨_, _, fn_isIn hx hk6 (by omega), fun c => ?_, fun c => ⟨fun c2 => ?_, fun c2 => ?_⟩⟩⟩
          · rw [nI_leI (by omega) (by omega)] at c; omega
          · refine mid 0 (Or.inr ⟨fun h => ?_, rfl⟩)
            rcases hu with ⟨_, h2⟩ | ⟨h2, _⟩
            · rw [h2] at c; exact absurd c (by decide)
            · exact h2 h.1
          · refine mid 1 (Or.inl ⟨?_, rfl⟩)
            rcases hu with ⟨h2, _⟩ | ⟨_, h2⟩
            · refine ⟨h2, fun h3 => ?_⟩
              rw [h3] at c2
              exact absurd c2 (by decide)
            · exact absurd h2 c
          · have tt : tl x k p = true := by
              cases hq : tl x k p with
              | true => rfl
              | false => rw [hq] at c2; exact absurd rfl c2
            have hu2 : (∀ q, q < p → ∀ k, k < n → fitP X k x q = true) ∧ ∀ j, j < k → fitP X j x p = true := by
              rcases hu with ⟨h2, _⟩ | ⟨_, h2⟩
              · exact h2
              · exact absurd h2 c
            have epz : pz (mS M) p (xh X + k) = pz (xS X) p (xh X + k) := (pz_congr E.1 p _).symm
            refine ⟨_, _, by rw [E.2.2.2.2.2.2.1, nI_add]; exact fn_isPaused (by omega) (by omega), ?_⟩
            rw [epz]
            cases hz : pz (xS X) p (xh X + k) with
            | true => exact ⟨fun _ => mid 0 (Or.inr ⟨fun h => by have := h.2 tt; rw [hz] at this; exact absurd this (by decide), rfl⟩), fun c3 => absurd c3 (by decide)⟩
            | false => exact ⟨fun c3 => absurd rfl c3, fun _ => mid 1 (Or.inl ⟨⟨hu2, fun _ => hz⟩, rfl⟩)⟩
      refine b_X10_isWell_5 g gr (by decide) _ _ _ _ M ⟨fun c => ?_, fun _ => ⟨fun c => ?_, fun _ => ⟨vp_in_nI (by omega) (by omega), fun y ey => ?_⟩⟩⟩
      · rw [show (2 : Int32) = nI 2 from rfl, nI_leI (by omega) (by omega)] at c; omega
      · rw [E.2.2.2.1, nI_leI (by omega) (by omega)] at c; omega
      · rw [ey, cp, E.2.2.2.2.2.2.2.1 p (by omega)]
        exact inner n 0 (by omega) u (hu.congr ⟨fun h => ⟨h, fun j hj => absurd hj (by omega)⟩, fun h => h.1⟩)
  exact loop _ 0 (Nat.zero_add _) 1 (Or.inl ⟨fun q hq => absurd hq (by omega), rfl⟩)
end mplan

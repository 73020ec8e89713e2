/-! the model: isPlan, costOf -/
section mcost
variable {X : PX} {M : MM}
theorem fn_X10_isPlan_bad {a b : Int32} (h : wth a 1 6 = 0) : Fn 2 mX10_isPlan [.ref 72, .int a, .int b] M (some (.int 0)) M := fn_intro ok_X10_isPlan (Nat.le_of_ble_eq_true rfl) fun G g gr =>
  b_X10_isPlan_0 g gr (by decide) a b M ⟨_, _, fin a 1 6 rfl rfl M, fun _ => b_X10_isPlan_38 g gr (by decide) _ _ _ _ M ⟨fun _ => ⟨Or.inl rfl, rfl, rfl⟩, fun _ => ⟨fun _ => ⟨Or.inl rfl, rfl, rfl⟩, fun c => absurd rfl c⟩⟩, fun c => absurd h c⟩
theorem dg_c {d c : Nat} (hd : d < 4) (hc : c ≤ 4) : d < 2 ^ min c 2 ↔ ∀ q, c ≤ q → q < 2 → d.testBit q = false := by
  have key : ∀ d, d < 4 → ∀ c, c ≤ 4 → (d < 2 ^ min c 2 ↔ ((c ≤ 0 → d.testBit 0 = false) ∧ (c ≤ 1 → d.testBit 1 = false))) := by decide +kernel
  rw [key d hd c hc]
  constructor
  · intro h q h1 h2
    rcases (show q = 0 ∨ q = 1 by omega) with rfl | rfl
    · exact h.1 h1
    · exact h.2 h1
  · intro h
    exact ⟨fun h1 => h 0 h1 (by omega), fun h1 => h 1 h1 (by omega)⟩
theorem fn_X10_isPlan (V : VX X) (E : EM X M) {n : Nat} {a v : Int32} (h1 : 1 ≤ n) (hn : n ≤ 6) (hv : plN X n a v) : Fn 2 mX10_isPlan [.ref 72, .int (nI n), .int a] M (some (.int v)) M := fn_intro ok_X10_isPlan (Nat.le_of_ble_eq_true rfl) fun G g gr => by
  have h4 := V.1.p4
  have hpn := pow_n hn
  have hw : ¬ wth (nI n) 1 6 = 0 := by
    rcases (show n = 1 ∨ n = 2 ∨ n = 3 ∨ n = 4 ∨ n = 5 ∨ n = 6 by omega) with rfl | rfl | rfl | rfl | rfl | rfl <;> decide
  refine b_X10_isPlan_0 g gr (by decide) _ a M ⟨_, _, fin (nI n) 1 6 rfl rfl M, fun c => absurd c hw, fun _ => ?_⟩
  refine ⟨_, _, fis (n := 4 ^ n) (by omega) (sh_n hn) a M, fun y ey => ?_⟩
  rw [ey]
  rcases hasV_cases (n := 4 ^ n) (by omega) a with no | ⟨x, hx, rfl⟩
  · rw [no, if_pos rfl]
    have : v = 0 := by
      rcases hv with ⟨x, hx, rfl, _, _⟩ | ⟨_, h⟩
      · rw [hasV_in hx (by omega)] at no
        exact absurd no (by decide)
      · exact h
    subst this
    exact b_X10_isPlan_38 g gr (by decide) _ _ _ _ M ⟨fun _ => ⟨Or.inl rfl, rfl, rfl⟩, fun _ => ⟨fun _ => ⟨Or.inl rfl, rfl, rfl⟩, fun c => absurd rfl c⟩⟩
  · rw [hasV_in hx (by omega), if_neg (show ¬ (1 : Int32) = 0 by decide)]
    have hvF : Flg (isP X n x) v := by
      rcases hv with ⟨x', hx', e, hP, h⟩ | ⟨hn', h⟩
      · have : x = x' := (nI_eq (by omega) (by omega)).mp e
        subst this
        exact Or.inl ⟨hP, h⟩
      · exact Or.inr ⟨hn' x hx rfl, h⟩
    have loop : ∀ (m k : Nat), k + m = n → ∀ u, Flg (∀ j, j < k → dg x j < 2 ^ min (xp X) 2) u → (u = 0 → v = 0) → At_X10_isPlan_38 G (nI n) (nI x) u (nI k) M := by
      intro m
      induction m with
      | zero =>
        intro k hk u hu _
        have := hvF.uniq (hu.congr ⟨fun h j hj => h j (by omega), fun h j hj => h j (by omega)⟩)
        subst this
        exact b_X10_isPlan_38 g gr (by decide) _ _ _ _ M ⟨fun _ => ⟨hu.i, rfl, rfl⟩, fun c => absurd (nI_le (by omega) (by omega)) c⟩
      | succ m ih =>
        intro k hk u hu hu0
        refine b_X10_isPlan_38 g gr (by decide) _ _ _ _ M ⟨fun c => ?_, fun _ => ⟨fun c => ⟨hu.i, by rw [hu0 c, c], rfl⟩, fun c y ey => ?_⟩⟩
        · rw [nI_leI (by omega) (by omega)] at c; omega
        · rw [ey, E.2.2.2.1]
          have hu1 : ∀ j, j < k → dg x j < 2 ^ min (xp X) 2 := by
            rcases hu with ⟨h, _⟩ | ⟨_, h⟩
            · exact h
            · exact absurd h c
          have key := dg_c (dg_lt x k) h4
          -- from pump q on
          have inner : ∀ (i q : Nat), xp X ≤ q → q ≤ 4 → 2 - q ≤ i → ∀ u, Flg (∀ r, xp X ≤ r → r < q → r < 2 → (dg x k).testBit r = false) u → At_X10_isPlan_54 G (nI n) (nI x) u (nI k) (nI q) M := by
            have done : ∀ q u, xp X ≤ q → q < 2 ^ 31 → 2 ≤ q → Flg (∀ r, xp X ≤ r → r < q → r < 2 → (dg x k).testBit r = false) u → At_X10_isPlan_54 G (nI n) (nI x) u (nI k) (nI q) M := fun q u hq hq31 hq2 hu => by
              refine b_X10_isPlan_54 g gr (by decide) _ _ _ _ _ M ⟨fun _ y ey => ?_, fun c => absurd (nI_le (show 2 ≤ q from hq2) hq31) c⟩
              rw [ey, nI_1]
              have e1 : (∀ r, xp X ≤ r → r < q → r < 2 → (dg x k).testBit r = false) ↔ ∀ j, j < k + 1 → dg x j < 2 ^ min (xp X) 2 := by
                constructor
                · intro h j hj
                  by_cases e : j = k
                  · subst e; exact key.mpr fun r h1 h2 => h r h1 (by omega) h2
                  · exact hu1 j (by omega)
                · intro h r h1 _ h3
                  exact key.mp (h k (by omega)) r h1 h3
              refine ih (k + 1) (by omega) u (hu.congr e1) (fun e => ?_)
              rcases hu with ⟨_, h⟩ | ⟨h, _⟩
              · rw [h] at e; exact absurd e (by decide)
              · rcases hvF with ⟨h9, _⟩ | ⟨_, h9⟩
                · exact absurd (e1.mpr fun j hj => h9 j (by omega)) h
                · exact h9
            intro i
            induction i with
            | zero =>
              intro q hq hq4 hi u hu
              exact done q u hq (by omega) (by omega) hu
            | succ i ihi =>
              intro q hq hq4 hi u hu
              by_cases q2 : q < 2
              · refine b_X10_isPlan_54 g gr (by decide) _ _ _ _ _ M ⟨fun c => ?_, fun _ => ⟨fun c y ey => ?_, fun c => ⟨_, _, fn_isIn (by omega) (by omega) q2, fun y ey z ez => ?_⟩⟩⟩
                · rw [show (2 : Int32) = nI 2 from rfl, nI_leI (by omega) (by omega)] at c; omega
                · rw [ey, nI_1]
                  refine ihi (q + 1) (by omega) (by omega) (by omega) 0 (Or.inr ⟨fun h => ?_, rfl⟩)
                  rcases hu with ⟨_, h9⟩ | ⟨h9, _⟩
                  · rw [h9] at c; exact absurd c (by decide)
                  · exact h9 fun r h1 h2 h3 => h r h1 (by omega) h3
                · rw [ez, nI_1]
                  have hu9 : ∀ r, xp X ≤ r → r < q → r < 2 → (dg x k).testBit r = false := by
                    rcases hu with ⟨h9, _⟩ | ⟨_, h9⟩
                    · exact h9
                    · exact absurd h9 c
                  refine ihi (q + 1) (by omega) (by omega) (by omega) y ?_
                  rw [ey]
                  cases ht : tl x k q with
                  | true => exact Or.inr ⟨fun h => by have := h q hq (by omega) q2; unfold tl at ht; rw [ht] at this; exact absurd this (by decide), rfl⟩
                  | false =>
                    refine Or.inl ⟨fun r h1 h2 h3 => ?_, rfl⟩
                    by_cases e : r = q
                    · subst e; exact ht
                    · exact hu9 r h1 (by omega) h3
              · exact done q u hq (by omega) (by omega) hu
          rw [hu.i.resolve_left c]
          exact inner 2 (xp X) (Nat.le_refl _) h4 (by omega) 1 (Or.inl ⟨fun r h1 h2 => absurd h2 (by omega), rfl⟩)
    exact loop n 0 (by omega) 1 (Or.inl ⟨fun j hj => absurd hj (by omega), rfl⟩) (fun e => absurd e (by decide))
def cps (X : PX) (x k : Nat) : Nat → Nat
  | 0 => 0
  | p + 1 => cps X x k p + (if tl x k p then (xS X 31 ((xh X + k) % 24)).toInt.toNat else 0)
theorem cps_all {x k : Nat} (h : dg x k < 2 ^ min (xp X) 2) : cps X x k (min (xp X) 2) = cH X x k := by
  unfold cH
  have k2 : ∀ d, d < 4 → ∀ pr : Nat, 0 + (if d.testBit 0 = true then pr else 0) + (if d.testBit 1 = true then pr else 0) = pr * pcn d := fun d hd pr => by
    rcases (show d = 0 ∨ d = 1 ∨ d = 2 ∨ d = 3 by omega) with rfl | rfl | rfl | rfl
    · show 0 + 0 + 0 = pr * 0
      omega
    · show 0 + pr + 0 = pr * 1
      omega
    · show 0 + 0 + pr = pr * 1
      omega
    · show 0 + pr + pr = pr * 2
      omega
  have k1 : ∀ d, d < 2 → ∀ pr : Nat, 0 + (if d.testBit 0 = true then pr else 0) = pr * pcn d := fun d hd pr => by
    rcases (show d = 0 ∨ d = 1 by omega) with rfl | rfl
    · show 0 + 0 = pr * 0
      omega
    · show 0 + pr = pr * 1
      omega
  rcases (show min (xp X) 2 = 0 ∨ min (xp X) 2 = 1 ∨ min (xp X) 2 = 2 by omega) with e | e | e
  · rw [e] at h ⊢
    rw [show dg x k = 0 by omega]
    show 0 = _ * 0
    omega
  · rw [e] at h ⊢
    exact k1 _ h _
  · rw [e] at h ⊢
    exact k2 _ (dg_lt x k) _
theorem fn_X10_costOf (V : VX X) (E : EM X M) {x n : Nat} (hx : x < 4096) (hn : n ≤ 6) (hP : isP X n x) : Fn 2 mX10_costOf [.ref 72, .int (nI n), .int (nI x)] M (some (.long (lN (cT X x n)))) M := fn_intro ok_X10_costOf (Nat.le_of_ble_eq_true rfl) fun G g gr => by
  have h4 := V.1.p4
  have hh := V.2.2.1
  refine b_X10_costOf_0 g gr (by decide) _ _ M ?_
  have loop : ∀ (m k : Nat), k + m = n → At_X10_costOf_5 G (nI n) (nI x) (lN (cT X x k)) (nI k) M := by
    intro m
    induction m with
    | zero =>
      intro k hk
      exact b_X10_costOf_5 g gr (by decide) _ _ _ _ M ⟨fun _ => ⟨by rw [show k = n by omega], rfl⟩, fun c => absurd (nI_le (by omega) (by omega)) c⟩
    | succ m ih =>
      intro k hk
      obtain ⟨c1, c2, c3⟩ := cH_lt V x k
      have e95 : M.1 95 ((xh X + k) % 24) = nI ((xS X 31 ((xh X + k) % 24)).toInt.toNat) := by rw [← c2, E.1 31 (by decide)]; rfl
      have inner : ∀ (i p : Nat), p + i = min (xp X) 2 → At_X10_costOf_14 G (nI n) (nI x) (lN (cT X x k + cps X x k p)) (nI k) (nI p) M := by
        intro i
        induction i with
        | zero =>
          intro p hp
          have hp' : p = min (xp X) 2 := by omega
          have fin9 : ∀ y, y = nI k + 1 → At_X10_costOf_5 G (nI n) (nI x) (lN (cT X x k + cps X x k p)) y M := fun y ey => by
            rw [ey, nI_1, hp', cps_all (hP k (by omega))]
            exact ih (k + 1) (by omega)
          refine b_X10_costOf_14 g gr (by decide) _ _ _ _ _ M ⟨fun _ => fin9, fun c => ⟨fun _ => fin9, fun c2 => ?_⟩⟩
          exfalso
          rw [show (2 : Int32) = nI 2 from rfl, nI_leI (by omega) (by omega)] at c
          rw [E.2.2.2.1, nI_leI (by omega) (by omega)] at c2
          omega
        | succ i ihi =>
          intro p hp
          refine b_X10_costOf_14 g gr (by decide) _ _ _ _ _ M ⟨fun c => ?_, fun _ => ⟨fun c => ?_, fun _ => ⟨_, _, fn_isIn hx (by omega) (by omega), fun c y ey z ez => ?_, fun c => ?_⟩⟩⟩
          · rw [show (2 : Int32) = nI 2 from rfl, nI_leI (by omega) (by omega)] at c; omega
          · rw [E.2.2.2.1, nI_leI (by omega) (by omega)] at c; omega
          · have tf : tl x k p = false := by
              cases hq : tl x k p with
              | false => rfl
              | true => rw [hq] at c; exact absurd c (by decide)
            rw [ey, ez, nI_1]
            have := ihi (p + 1) (by omega)
            unfold cps at this
            rw [tf] at this
            rw [Int64.add_zero]
            exact this
          · have tt : tl x k p = true := by
              cases hq : tl x k p with
              | true => rfl
              | false => rw [hq] at c; exact absurd rfl c
            rw [E.2.2.2.2.2.2.1, nI_add, rem24 (by omega), nI_clamp (show (xh X + k) % 24 < 2 ^ 31 by omega), e95]
            refine ⟨by decide, vp_in_nI (by omega) (by omega), fun y ey z ez => ?_⟩
            rw [ey, ez, nI_1, nI_l (by omega), lN_add]
            have := ihi (p + 1) (by omega)
            unfold cps at this
            rw [tt, if_pos rfl, ← Nat.add_assoc] at this
            exact this
      refine b_X10_costOf_5 g gr (by decide) _ _ _ _ M ⟨fun c => ?_, fun _ => ?_⟩
      · rw [nI_leI (by omega) (by omega)] at c; omega
      · exact inner _ 0 (Nat.zero_add _)
  exact loop n 0 (by omega)
end mcost

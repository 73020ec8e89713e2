/-! the class's planner: what it asks of a plan -/
def EC (X : PX) (M : MM) : Prop := (∀ k ∈ rowL, xS X k = M.1 k) ∧ M.1 2 7 = nI (xd X) ∧ M.1 10 4 = nI (xw X) ∧ M.1 15 7 = nI (xp X) ∧ M.1 22 3 = nI (xs X) ∧ (∃ nwd : Nat, nwd ≤ 3 ∧ M.1 32 1 = nI nwd ∧ max nwd 1 = xt X) ∧ M.1 1 7 = nI (xh X) ∧ M.1 15 6 = nI (xb X) ∧ (∀ w, w < xt X → ∀ k, k < 6 → M.1 (34 + w) k = xR X w k) ∧ M.1 7 = xW X
theorem EC.congr {X : PX} {M M' : MM} (h : ∀ j, j ≠ 37 → ¬ (39 ≤ j ∧ j ≤ 63) → M'.1 j = M.1 j) (E : EC X M) (V : VX X) : EC X M' := by
  obtain ⟨e0, e1, e2, e3, e4, e5, e6, e7, e8, e9⟩ := E
  have ht := V.2.2.2.1.2
  refine ⟨fun k hk => ?_, ?_, ?_, ?_, ?_, ?_, ?_, ?_, fun w hw k hk => ?_, ?_⟩
  · rw [h k (by have := rowL_le k hk; omega) (by have := rowL_le k hk; omega)]; exact e0 k hk
  · rw [h 2 (by decide) (by decide)]; exact e1
  · rw [h 10 (by decide) (by decide)]; exact e2
  · rw [h 15 (by decide) (by decide)]; exact e3
  · rw [h 22 (by decide) (by decide)]; exact e4
  · rw [h 32 (by decide) (by decide)]; exact e5
  · rw [h 1 (by decide) (by decide)]; exact e6
  · rw [h 15 (by decide) (by decide)]; exact e7
  · rw [h (34 + w) (by omega) (by omega)]; exact e8 w hw k hk
  · rw [h 7 (by decide) (by decide)]; exact e9
section planner
variable {X : PX} {M : MM}
theorem fn_tells {x k p : Nat} (hx : x < 4096) (hk : k < 6) (hp : p < 2) : Fn 1 mX3_tells [.ref 37, .int (nI x), .int (nI k), .int (nI p)] M (some (.int (if tl x k p then 1 else 0))) M := fn_intro ok_X3_tells (Nat.le_of_ble_eq_true rfl) fun G g gr => by
  refine b_X3_tells_0 g gr (by decide) _ _ _ M ⟨ite_01, ?_⟩
  rw [bit_of hx hk hp]
  cases tl x k p <;> exact ⟨rfl, rfl⟩
theorem fn_bitsOf {x k : Nat} (hx : x < 4096) (hk : k < 6) : Fn 1 mX3_bitsOf [.ref 37, .int (nI x), .int (nI k)] M (some (.int (nI (dg x k)))) M := fn_intro ok_X3_bitsOf (Nat.le_of_ble_eq_true rfl) fun G g gr => by
  refine b_X3_bitsOf_0 g gr (by decide) _ _ M ?_
  rw [bits_of hx hk]
  exact ⟨rfl, rfl⟩
theorem run_on {x p k : Nat} (h : tl x k p = true) : run x p (k + 1) = run x p k + 1 := by
  show (if tl x k p then run x p k + 1 else 0) = _
  rw [if_pos h]
theorem run_off {x p k : Nat} (h : tl x k p = false) : run x p (k + 1) = 0 := by
  show (if tl x k p then run x p k + 1 else 0) = _
  rw [h]
  rfl
theorem xb16 (V : VX X) : xb X < 16 := by
  have h4 := V.1.p4
  exact Nat.lt_of_lt_of_le V.2.1 (Nat.pow_le_pow_right (n := 2) (by omega) h4)
theorem fn_mayEnd (V : VX X) (E : EC X M) {x k p : Nat} (hx : x < 4096) (hk : k < 6) (hp : p < 2) : Fn 2 mX3_mayEnd [.ref 37, .int (nI k), .int (nI x), .int (nI p)] M (some (.int (if mayE X k x p then 1 else 0))) M := fn_intro ok_X3_mayEnd (Nat.le_of_ble_eq_true rfl) fun G g gr => by
  have cp : (nI p).toNatClampNeg = p := nI_clamp (by omega)
  have e19 : M.1 19 p = xS X 19 p := by rw [← E.1 19 (by decide)]
  have hon := fn_isOn (M := M) (p := p) (by omega) (xb16 V) E.2.2.2.2.2.2.2.1
  refine b_X3_mayEnd_0 g gr (by decide) _ _ _ M ?_
  have ends : ∀ r, r ≤ k → run x p k = r → ((nI r = (0 : Int32) → (some (Value.int (if mayE X k x p then 1 else 0)) = some (.int 1) ∧ M = M)) ∧ (¬ (nI r = (0 : Int32)) → (vp_in (nI p) 4) ∧ (((M.1 19 p : Int32) ≤ nI r → (some (Value.int (if mayE X k x p then 1 else 0)) = some (.int 1) ∧ M = M)) ∧ (¬ ((M.1 19 p : Int32) ≤ nI r) → ((¬ nI r = (nI k : Int32) → (some (Value.int (if mayE X k x p then 1 else 0)) = some (.int 0) ∧ M = M)) ∧ (nI r = (nI k : Int32) → (∃ (r8 : Int32) (M6 : MM), Fn 1 mX4_isOn [.ref 15, .int (nI p)] M (some (.int r8)) M6 ∧ ((if r8 = (0 : Int32) then 0 else 1) = (0 : Int32) ∨ (if r8 = (0 : Int32) then 0 else 1) = (1 : Int32)) ∧ (some (Value.int (if mayE X k x p then 1 else 0)) = some (.int (if r8 = (0 : Int32) then 0 else 1)) ∧ M = M6)))))))) := by
    intro r hr er
    unfold mayE
    rw [er]
    have e0 : (nI r = (0 : Int32)) ↔ r = 0 := nI_eq (b := 0) (by omega) (by omega)
    have ek : (nI r = nI k) ↔ r = k := nI_eq (by omega) (by omega)
    refine ⟨fun c => ?_, fun c => ⟨vp_in_nI (by omega) (by omega), fun c2 => ?_, fun c2 => ⟨fun c3 => ?_, fun c3 => ⟨_, _, hon, ite_01, ?_⟩⟩⟩⟩
    · rw [e0] at c; subst c; exact ⟨rfl, rfl⟩
    · rw [e19] at c2
      simp [c2]
    · rw [e19] at c2
      rw [ek] at c3
      rw [e0] at c
      simp [c2, c3, c]
    · rw [e19] at c2
      rw [ek] at c3
      rw [e0] at c
      have f1 : (r == 0) = false := by simp; exact c
      have f2 : decide (xS X 19 p ≤ nI r) = false := by simp only [decide_eq_false_iff_not]; exact c2
      have f3 : (r == k) = true := by simp; exact c3
      rw [f1, f2, f3]
      cases (xb X).testBit p <;> exact ⟨rfl, rfl⟩
  have loop : ∀ (m r : Nat), r + m = k → run x p k = r + run x p (k - r) → At_X3_mayEnd_3 G (nI k) (nI x) (nI p) (nI r) M := by
    intro m
    induction m with
    | zero =>
      intro r hr he
      have : r = k := by omega
      subst this
      rw [Nat.sub_self] at he
      have := ends r (Nat.le_refl _) he
      refine b_X3_mayEnd_3 g gr (by decide) _ _ _ _ M ⟨fun _ => ?_, fun c => absurd (nI_le (by omega) (by omega)) c⟩
      rw [cp]
      exact this
    | succ m ih =>
      intro r hr he
      have ix : (nI k - 1 : Int32) - nI r = nI (k - 1 - r) := by rw [show (1 : Int32) = nI 1 from rfl, pk_sub (by omega), pk_sub (by omega)]
      refine b_X3_mayEnd_3 g gr (by decide) _ _ _ _ M ⟨fun c => ?_, fun _ => ⟨_, _, by rw [ix]; exact fn_tells hx (by omega) hp, ?_⟩⟩
      · rw [nI_leI (by omega) (by omega)] at c; omega
      · have ek : k - r = (k - 1 - r) + 1 := by omega
        rw [cp]
        cases ht : tl x (k - 1 - r) p with
        | true =>
          refine ⟨fun c => absurd c (by decide), fun _ y ey => ?_⟩
          rw [ey, nI_1]
          refine ih (r + 1) (by omega) ?_
          rw [he, ek, run_on ht, show k - (r + 1) = k - 1 - r by omega]
          omega
        | false =>
          refine ⟨fun _ => ends r (by omega) ?_, fun c => absurd rfl c⟩
          rw [he, ek, run_off ht]
          rfl
  exact loop k 0 (by omega) (by rw [Nat.sub_zero, Nat.zero_add])
theorem fn_fits (V : VX X) (E : EC X M) {x k : Nat} {v : Int32} (hx : x < 4096) (hk : k < 6) (hv : (fit X k x ∧ v = 1) ∨ (¬ fit X k x ∧ v = 0)) : Fn 4 mX3_fits [.ref 37, .int (nI k), .int (nI x)] M (some (.int v)) M := fn_intro ok_X3_fits (Nat.le_of_ble_eq_true rfl) fun G g gr => by
  have h4 := V.1.p4
  have hh := V.2.2.1
  refine b_X3_fits_0 g gr (by decide) _ _ M ?_
  have loop : ∀ (m p : Nat), p + m = min (xp X) 2 → (∀ q, q < p → fitP X k x q = true) → At_X3_fits_2 G (nI k) (nI x) (nI p) M := by
    intro m
    induction m with
    | zero =>
      intro p hp ha
      refine b_X3_fits_2 g gr (by decide) _ _ _ M ⟨_, _, fn_inPlans h4 E.2.2.2.1, fun _ => ?_, fun c => absurd (nI_le (by omega) (by omega)) c⟩
      have hf : fit X k x := fun q hq => ha q (by omega)
      rcases hv with ⟨_, rfl⟩ | ⟨h, _⟩
      · exact ⟨rfl, rfl⟩
      · exact absurd hf h
    | succ m ih =>
      intro p hp ha
      have hp2 : p < 2 := by omega
      refine b_X3_fits_2 g gr (by decide) _ _ _ M ⟨_, _, fn_inPlans h4 E.2.2.2.1, fun c => ?_, fun _ => ⟨_, _, fn_tells hx hk hp2, ?_⟩⟩
      · rw [nI_leI (by omega) (by omega)] at c; omega
      · have bad : fitP X k x p = false → v = 0 := fun hb => by
          rcases hv with ⟨h, _⟩ | ⟨_, h⟩
          · have := h p (by omega)
            rw [hb] at this
            exact absurd this (by decide)
          · exact h
        have good : fitP X k x p = true → At_X3_fits_2 G (nI k) (nI x) (nI (p + 1)) M := fun hg => ih (p + 1) (by omega) (fun q hq => by
          by_cases e : q = p
          · subst e; exact hg
          · exact ha q (by omega))
        have ef : fitP X k x p = if tl x k p then !pz (xS X) p (xh X + k) else mayE X k x p := rfl
        cases ht : tl x k p with
        | false =>
          rw [ht] at ef
          refine ⟨fun _ => ⟨_, _, fn_mayEnd V E hx hk hp2, ?_⟩, fun c => absurd rfl c⟩
          cases hm : mayE X k x p with
          | true =>
            rw [hm] at ef
            refine ⟨fun _ y ey => ?_, fun c => absurd c (by decide)⟩
            rw [ey, nI_1]
            exact good ef
          | false =>
            rw [hm] at ef
            exact ⟨fun c => absurd rfl c, fun _ => ⟨by rw [bad ef], rfl⟩⟩
        | true =>
          rw [ht] at ef
          have epz : pz M.1 p (xh X + k) = pz (xS X) p (xh X + k) := (pz_congr E.1 p _).symm
          refine ⟨fun c => absurd c (by decide), fun _ => ⟨_, _, by rw [E.2.2.2.2.2.2.1, nI_add]; exact fn_pausesAt (by omega) (by omega), ?_⟩⟩
          rw [epz]
          cases hm : pz (xS X) p (xh X + k) with
          | false =>
            rw [hm] at ef
            refine ⟨fun _ y ey => ?_, fun c => absurd rfl c⟩
            rw [ey, nI_1]
            exact good ef
          | true =>
            rw [hm] at ef
            exact ⟨fun c => absurd c (by decide), fun _ => ⟨by rw [bad ef], rfl⟩⟩
  exact loop _ 0 (Nat.zero_add _) (fun q hq => absurd hq (by omega))
theorem fn_X3_isWell (V : VX X) (E : EC X M) {x n : Nat} {v : Int32} (hx : x < 4096) (hn : n ≤ 6) (hv : (Wel X n x ∧ v = 1) ∨ (¬ Wel X n x ∧ v = 0)) : Fn 5 mX3_isWell [.ref 37, .int (nI n), .int (nI x)] M (some (.int v)) M := fn_intro ok_X3_isWell (Nat.le_of_ble_eq_true rfl) fun G g gr => by
  refine b_X3_isWell_0 g gr (by decide) _ _ M ?_
  have loop : ∀ (m k : Nat), k + m = n → (∀ q, q < k → fit X q x) → At_X3_isWell_2 G (nI n) (nI x) (nI k) M := by
    intro m
    induction m with
    | zero =>
      intro k hk ha
      refine b_X3_isWell_2 g gr (by decide) _ _ _ M ⟨fun _ => ?_, fun c => absurd (nI_le (by omega) (by omega)) c⟩
      rcases hv with ⟨_, rfl⟩ | ⟨h, _⟩
      · exact ⟨rfl, rfl⟩
      · exact absurd (fun q hq => ha q (by omega)) h
    | succ m ih =>
      intro k hk ha
      refine b_X3_isWell_2 g gr (by decide) _ _ _ M ⟨fun c => ?_, fun _ => ?_⟩
      · rw [nI_leI (by omega) (by omega)] at c; omega
      · by_cases hf : fit X k x
        · refine ⟨1, M, fn_fits V E hx (by omega) (Or.inl ⟨hf, rfl⟩), fun _ y ey => ?_, fun c => absurd c (by decide)⟩
          rw [ey, nI_1]
          exact ih (k + 1) (by omega) (fun q hq => by
            by_cases e : q = k
            · subst e; exact hf
            · exact ha q (by omega))
        · refine ⟨0, M, fn_fits V E hx (by omega) (Or.inr ⟨hf, rfl⟩), fun c => absurd rfl c, fun _ => ?_⟩
          rcases hv with ⟨h, _⟩ | ⟨_, rfl⟩
          · exact absurd (h k (by omega)) hf
          · exact ⟨rfl, rfl⟩
  exact loop n 0 (by omega) (fun q hq => absurd hq (by omega))
theorem sh_n {n : Nat} (hn : n ≤ 6) : (1 : Int32) <<< ((2 * nI n) &&& 31) = nI (4 ^ n) := by
  rcases (show n = 0 ∨ n = 1 ∨ n = 2 ∨ n = 3 ∨ n = 4 ∨ n = 5 ∨ n = 6 by omega) with rfl | rfl | rfl | rfl | rfl | rfl | rfl <;> rfl
theorem pow_n {n : Nat} (hn : n ≤ 6) : 4 ^ n ≤ 4096 := Nat.pow_le_pow_right (n := 4) (by omega) hn
theorem sh_c {c : Nat} (hc : c ≤ 2) : (1 : Int32) <<< (nI c &&& 31) = nI (2 ^ c) := by
  rcases (show c = 0 ∨ c = 1 ∨ c = 2 by omega) with rfl | rfl | rfl <;> rfl
theorem pow_c {c : Nat} (hc : c ≤ 2) : 2 ^ c ≤ 4 := Nat.pow_le_pow_right (n := 2) (by omega) hc
/-- a number is a plan's: 0 if not -/
def plN (X : PX) (n : Nat) (a v : Int32) : Prop := (∃ x : Nat, x < 4 ^ n ∧ a = nI x ∧ isP X n x ∧ v = 1) ∨ ((∀ x : Nat, x < 4 ^ n → a = nI x → ¬ isP X n x) ∧ v = 0)
theorem fn_X3_isPlan (V : VX X) (E : EC X M) {n : Nat} {a v : Int32} (hn : n ≤ 6) (hv : plN X n a v) : Fn 3 mX3_isPlan [.ref 37, .int (nI n), .int a] M (some (.int v)) M := fn_intro ok_X3_isPlan (Nat.le_of_ble_eq_true rfl) fun G g gr => by
  have h4 := V.1.p4
  have hpn := pow_n hn
  have out : (a < 0 ∨ ¬ a < nI (4 ^ n)) → v = 0 := fun h => by
    rcases hv with ⟨x, hx, rfl, _, _⟩ | ⟨_, h⟩
    · exfalso
      rcases h with h | h
      · rw [Int32.lt_iff_toInt_lt, nI_toInt (by omega), show (0 : Int32).toInt = 0 by decide] at h; omega
      · exact h ((nI_ltI (by omega) (by omega)).mpr hx)
    · exact h
  refine b_X3_isPlan_0 g gr (by decide) _ a M ⟨fun c => ⟨by rw [out (Or.inl c)], rfl⟩, fun c => ?_⟩
  rw [sh_n hn]
  refine ⟨fun c2 => ?_, fun c2 => ⟨by rw [out (Or.inr c2)], rfl⟩⟩
  obtain ⟨x, hx31, rfl⟩ := nI_of c
  rw [nI_ltI hx31 (by omega)] at c2
  have loop : ∀ (m k : Nat), k + m = n → (∀ q, q < k → dg x q < 2 ^ min (xp X) 2) → At_X3_isPlan_17 G (nI n) (nI x) (nI k) M := by
    intro m
    induction m with
    | zero =>
      intro k hk ha
      refine b_X3_isPlan_17 g gr (by decide) _ _ _ M ⟨fun _ => ?_, fun c => absurd (nI_le (by omega) (by omega)) c⟩
      have hP : isP X n x := fun q hq => ha q (by omega)
      rcases hv with ⟨_, _, _, _, rfl⟩ | ⟨h, _⟩
      · exact ⟨rfl, rfl⟩
      · exact absurd hP (h x c2 rfl)
    | succ m ih =>
      intro k hk ha
      refine b_X3_isPlan_17 g gr (by decide) _ _ _ M ⟨fun c => ?_, fun _ => ⟨_, _, fn_bitsOf (by omega) (by omega), _, _, fn_inPlans h4 E.2.2.2.1, ?_⟩⟩
      · rw [nI_leI (by omega) (by omega)] at c; omega
      · have hd := dg_lt x k
        have hc := pow_c (c := min (xp X) 2) (by omega)
        rw [sh_c (by omega), nI_ltI (by omega) (by omega)]
        refine ⟨fun c y ey => ?_, fun c => ?_⟩
        · rw [ey, nI_1]
          exact ih (k + 1) (by omega) (fun q hq => by
            by_cases e : q = k
            · subst e; exact c
            · exact ha q (by omega))
        · rcases hv with ⟨x', hx', e, hP, _⟩ | ⟨_, rfl⟩
          · exfalso
            have : x = x' := (nI_eq (by omega) (by omega)).mp e
            subst this
            exact c (hP k (by omega))
          · exact ⟨rfl, rfl⟩
  exact loop n 0 (by omega) (fun q hq => absurd hq (by omega))
theorem fn_cost_l (V : VX X) (E : EC X M) {x k : Nat} (hk : k < 6) : Fn 3 mX2_cost [.ref 1, .int (nI (dg x k)), .int (nI (xh X + k))] M (some (.int (nI (cH X x k)))) M := by
  have hh := V.2.2.1
  obtain ⟨c1, c2, c3⟩ := cH_lt V x k
  have := fn_cost (M := M) (b := dg x k) (h := xh X + k) (by have := dg_lt x k; omega) (by omega)
  rw [← E.1 31 (by decide), c2, pk_mul] at this
  exact this
theorem fn_X3_costOf (V : VX X) (E : EC X M) {x n : Nat} (hx : x < 4096) (hn : n ≤ 6) : Fn 4 mX3_costOf [.ref 37, .int (nI n), .int (nI x)] M (some (.long (lN (cT X x n)))) M := fn_intro ok_X3_costOf (Nat.le_of_ble_eq_true rfl) fun G g gr => by
  refine b_X3_costOf_0 g gr (by decide) _ _ M ?_
  have loop : ∀ (m k : Nat), k + m = n → At_X3_costOf_5 G (nI n) (nI x) (lN (cT X x k)) (nI k) M := by
    intro m
    induction m with
    | zero =>
      intro k hk
      exact b_X3_costOf_5 g gr (by decide) _ _ _ _ M ⟨fun _ => ⟨by rw [show k = n by omega], rfl⟩, fun c => absurd (nI_le (by omega) (by omega)) c⟩
    | succ m ih =>
      intro k hk
      refine b_X3_costOf_5 g gr (by decide) _ _ _ _ M ⟨fun c => ?_, fun _ => ⟨_, _, fn_bitsOf hx (by omega), _, _, by rw [E.2.2.2.2.2.2.1, nI_add]; exact fn_cost_l V E (by omega), ?_⟩⟩
      · rw [nI_leI (by omega) (by omega)] at c; omega
      · intro y ey z ez
        have c1 := (cH_lt V x k).1
        rw [ey, ez, nI_1, nI_l (by omega), lN_add]
        exact ih (k + 1) (by omega)
  exact loop n 0 (by omega)
end planner

/-! passed, count, turn -/
theorem case_passed {M : MM} {T : Nat} (I : Inv M T) (a b : Int32) : ∃ (r : Int32) (M1 M2 : MM), Fn 2 mX9_passed [.ref 0, .int a, .int b] M (some (.int r)) M1 ∧ Fn 2 mX10_passed [.ref 72, .int a, .int b] M1 (some (.int r)) M2 ∧ Inv M2 T := by
  obtain ⟨nd, nw, np, ns, nwd, h, bb, i1, i2, i3, i4, i5, i6, i7⟩ := id I
  obtain ⟨s1, s2, s3, s4, s5, s6, s7, s8, s9, s10, s11, s12, s13, s14, s15, s16, s17⟩ := id i1
  have h8 := i3.w8
  have h4 := i3.p4
  have h4s := i3.s4
  have e96 : M.1 96 = M.1 27 := i2 (27, 96) (by decide)
  have e97 : M.1 97 = M.1 28 := i2 (28, 97) (by decide)
  have e98 : M.1 98 = M.1 29 := i2 (29, 98) (by decide)
  have fw := fis (n := nw) (by omega) s4 b M
  have fp := fis (n := np) (by omega) s6 b M
  have fs := fis (n := ns) (by omega) s8 b M
  by_cases c0 : a = 0
  · subst c0
    rcases hasV_cases (n := nw) (by omega) b with no | ⟨w, hw, rfl⟩
    · refine ⟨-1, M, M, fn_intro ok_X9_passed (Nat.le_of_ble_eq_true rfl) fun G g gr => ?_, fn_intro ok_X10_passed (Nat.le_of_ble_eq_true rfl) fun G g gr => ?_, I⟩
      · exact b_X9_passed_0 g gr (by decide) _ b M ⟨fun _ => ⟨_, _, fhasW s3 b, fun _ => ⟨rfl, rfl⟩, fun c => absurd no c⟩, fun c => absurd c (by decide), fun c => absurd c (by decide), fun c => absurd rfl c⟩
      · exact b_X10_passed_0 g gr (by decide) _ b M ⟨fun c => absurd rfl c, fun _ => ⟨_, _, fw, fun _ => ⟨fun _ => ⟨fun _ => ⟨rfl, rfl⟩, fun c => absurd c (by decide)⟩, fun c => absurd c (by decide)⟩, fun c => absurd no c⟩⟩
    · have yes : ¬ hasV (nI nw) (nI w) = 0 := by rw [hasV_in hw (by omega)]; decide
      have cw : (nI w).toNatClampNeg = w := nI_clamp (by omega)
      refine ⟨M.1 27 w, M, M, fn_intro ok_X9_passed (Nat.le_of_ble_eq_true rfl) fun G g gr => ?_, fn_intro ok_X10_passed (Nat.le_of_ble_eq_true rfl) fun G g gr => ?_, I⟩
      · exact b_X9_passed_0 g gr (by decide) _ _ M ⟨fun _ => ⟨_, _, fhasW s3 _, fun c => absurd c yes, fun _ => ⟨vp_in_nI (by omega) (by omega), by rw [cw], rfl⟩⟩, fun c => absurd c (by decide), fun c => absurd c (by decide), fun c => absurd rfl c⟩
      · exact b_X10_passed_0 g gr (by decide) _ _ M ⟨fun c => absurd rfl c, fun _ => ⟨_, _, fw, fun c => absurd c yes, fun _ => ⟨vp_in_nI (by omega) (by omega), by rw [cw, e96], rfl⟩⟩⟩
  by_cases c1 : a = 1
  · subst c1
    rcases hasV_cases (n := np) (by omega) b with no | ⟨w, hw, rfl⟩
    · refine ⟨-1, M, M, fn_intro ok_X9_passed (Nat.le_of_ble_eq_true rfl) fun G g gr => ?_, fn_intro ok_X10_passed (Nat.le_of_ble_eq_true rfl) fun G g gr => ?_, I⟩
      · exact b_X9_passed_0 g gr (by decide) _ b M ⟨fun c => absurd c c0, fun _ => ⟨_, _, fhasP s5 b, fun _ => ⟨rfl, rfl⟩, fun c => absurd no c⟩, fun c => absurd c (by decide), fun _ c => absurd rfl c⟩
      · exact b_X10_passed_0 g gr (by decide) _ b M ⟨fun _ => ⟨fun c => absurd rfl c, fun _ => ⟨_, _, fp, fun _ => ⟨fun _ => ⟨rfl, rfl⟩, fun c => absurd c (by decide)⟩, fun c => absurd no c⟩⟩, fun c => absurd c c0⟩
    · have yes : ¬ hasV (nI np) (nI w) = 0 := by rw [hasV_in hw (by omega)]; decide
      have cw : (nI w).toNatClampNeg = w := nI_clamp (by omega)
      refine ⟨M.1 28 w, M, M, fn_intro ok_X9_passed (Nat.le_of_ble_eq_true rfl) fun G g gr => ?_, fn_intro ok_X10_passed (Nat.le_of_ble_eq_true rfl) fun G g gr => ?_, I⟩
      · exact b_X9_passed_0 g gr (by decide) _ _ M ⟨fun c => absurd c c0, fun _ => ⟨_, _, fhasP s5 _, fun c => absurd c yes, fun _ => ⟨vp_in_nI (by omega) (by omega), by rw [cw], rfl⟩⟩, fun c => absurd c (by decide), fun _ c => absurd rfl c⟩
      · exact b_X10_passed_0 g gr (by decide) _ _ M ⟨fun _ => ⟨fun c => absurd rfl c, fun _ => ⟨_, _, fp, fun c => absurd c yes, fun _ => ⟨vp_in_nI (by omega) (by omega), by rw [cw, e97], rfl⟩⟩⟩, fun c => absurd c c0⟩
  by_cases c2 : a = 2
  · subst c2
    rcases hasV_cases (n := ns) (by omega) b with no | ⟨w, hw, rfl⟩
    · refine ⟨-1, M, M, fn_intro ok_X9_passed (Nat.le_of_ble_eq_true rfl) fun G g gr => ?_, fn_intro ok_X10_passed (Nat.le_of_ble_eq_true rfl) fun G g gr => ?_, I⟩
      · exact b_X9_passed_0 g gr (by decide) _ b M ⟨fun c => absurd c c0, fun c => absurd c c1, fun _ => ⟨_, _, fhasS s7 b, fun _ => ⟨rfl, rfl⟩, fun c => absurd no c⟩, fun _ _ c => absurd rfl c⟩
      · exact b_X10_passed_0 g gr (by decide) _ b M ⟨fun _ => ⟨fun _ => ⟨fun c => absurd rfl c, fun _ => ⟨_, _, fs, fun _ => ⟨rfl, rfl⟩, fun c => absurd no c⟩⟩, fun c => absurd c c1⟩, fun c => absurd c c0⟩
    · have yes : ¬ hasV (nI ns) (nI w) = 0 := by rw [hasV_in hw (by omega)]; decide
      have cw : (nI w).toNatClampNeg = w := nI_clamp (by omega)
      refine ⟨M.1 29 w, M, M, fn_intro ok_X9_passed (Nat.le_of_ble_eq_true rfl) fun G g gr => ?_, fn_intro ok_X10_passed (Nat.le_of_ble_eq_true rfl) fun G g gr => ?_, I⟩
      · exact b_X9_passed_0 g gr (by decide) _ _ M ⟨fun c => absurd c c0, fun c => absurd c c1, fun _ => ⟨_, _, fhasS s7 _, fun c => absurd c yes, fun _ => ⟨vp_in_nI (by omega) (by omega), by rw [cw], rfl⟩⟩, fun _ _ c => absurd rfl c⟩
      · exact b_X10_passed_0 g gr (by decide) _ _ M ⟨fun _ => ⟨fun _ => ⟨fun c => absurd rfl c, fun _ => ⟨_, _, fs, fun c => absurd c yes, fun _ => ⟨vp_in_nI (by omega) (by omega), by rw [cw, e98], rfl⟩⟩⟩, fun c => absurd c c1⟩, fun c => absurd c c0⟩
  refine ⟨-1, M, M, fn_intro ok_X9_passed (Nat.le_of_ble_eq_true rfl) fun G g gr => ?_, fn_intro ok_X10_passed (Nat.le_of_ble_eq_true rfl) fun G g gr => ?_, I⟩
  · exact b_X9_passed_0 g gr (by decide) _ b M ⟨fun c => absurd c c0, fun c => absurd c c1, fun c => absurd c c2, fun _ _ _ => ⟨rfl, rfl⟩⟩
  · exact b_X10_passed_0 g gr (by decide) _ b M ⟨fun _ => ⟨fun _ => ⟨fun _ => ⟨rfl, rfl⟩, fun c => absurd c c2⟩, fun c => absurd c c1⟩, fun c => absurd c c0⟩
def cbt (b : Nat) : Nat → Int32
  | 0 => 0
  | k + 1 => cbt b k + (if bitI b k = 0 then 0 else 1)
theorem cbt_pcn : ∀ np, np ≤ 4 → ∀ b, b < 2 ^ np → cbt b np = nI (pcn b) := by decide +kernel
def cntV (M : MM) (nd : Nat) (b : Nat) (a : Int32) : Int32 :=
  if a = 0 then M.1 2 7 else if a = 1 then M.1 10 4 else if a = 2 then M.1 15 7 else if a = 3 then M.1 22 3 else if a = 4 then M.1 32 1 else if a = 5 then M.1 1 7 else if a = 6 then alm M.1 nd (M.1 7) else if a = 7 then M.1 1 8 else if a = 8 then nI (pcn b) else if a = 9 then sumI (M.1 7) nd else -1
theorem case_count {M : MM} {T : Nat} (I : Inv M T) (a : Int32) : ∃ (r : Int32) (M1 M2 : MM), Fn 4 mX9_count [.ref 0, .int a] M (some (.int r)) M1 ∧ Fn 4 mX10_count [.ref 72, .int a] M1 (some (.int r)) M2 ∧ Inv M2 T := by
  obtain ⟨nd, nw, np, ns, nwd, h, bb, i1, i2, i3, i4, i5, i6, i7⟩ := id I
  obtain ⟨s1, s2, s3, s4, s5, s6, s7, s8, s9, s10, s11, s12, s13, s14, s15, s16, s17⟩ := id i1
  have h6 := i3.d6
  have h4 := i3.p4
  have hb16 : bb < 16 := Nat.lt_of_lt_of_le s16 (Nat.pow_le_pow_right (n := 2) (by omega) h4)
  have rr := rel_row i2
  have e75 : M.1 75 = M.1 7 := i2 (7, 75) (by decide)
  refine ⟨cntV M nd bb a, M, M, fn_intro ok_X9_count (Nat.le_of_ble_eq_true rfl) fun G g gr => ?_, fn_intro ok_X10_count (Nat.le_of_ble_eq_true rfl) fun G g gr => ?_, I⟩
  · refine b_X9_count_0 g gr (by decide) a M ⟨fun e => ?_, fun e => ?_, fun e => ?_, fun e => ?_, fun e => ?_, fun e => ?_, fun e => ⟨_, _, fn_X0_alarms i3 s1, ?_⟩, fun e => ?_, fun e => ⟨_, _, by rw [s15]; exact fn_bitCount hb16, ?_⟩, fun e => ⟨_, _, fn_X0_allWater h6 s1, ?_⟩, fun n0 n1 n2 n3 n4 n5 n6 n7 n8 n9 => ?_⟩
    iterate 10 (subst e; exact ⟨rfl, rfl⟩)
    unfold cntV
    rw [if_neg n0, if_neg n1, if_neg n2, if_neg n3, if_neg n4, if_neg n5, if_neg n6, if_neg n7, if_neg n8, if_neg n9]
    exact ⟨rfl, rfl⟩
  · refine b_X10_count_0 g gr (by decide) a M ?_
    have l2 : ∀ (m i : Nat), i + m = nd → At_X10_count_43 G a (nI (pcn bb)) (sumI (M.1 7) i) (nI i) M := by
      intro m
      induction m with
      | zero =>
        intro i hi
        have : i = nd := by omega
        subst this
        have hal := fn_X10_alarms (M := M) (i3.congr rr) s2
        rw [e75] at hal
        have eal : alm (mS M) i (M.1 7) = alm M.1 i (M.1 7) := by
          unfold alm
          rw [show (fun d => if brc (mS M) (M.1 7) d ≤ 0 then (0 : Int32) else 1) = (fun d => if brc M.1 (M.1 7) d ≤ 0 then (0 : Int32) else 1) from funext fun d => by rw [brc_congr rr]]
        rw [eal] at hal
        refine b_X10_count_43 g gr (by decide) _ _ _ _ M ⟨fun _ => ⟨fun e => ?_, fun e => ?_, fun e => ?_, fun e => ?_, fun e => ?_, fun e => ?_, fun e => ⟨_, _, hal, ?_⟩, fun e => ?_, fun e => ?_, fun e => ?_, fun n0 n1 n2 n3 n4 n5 n6 n7 n8 n9 => ?_⟩, fun c => absurd (by rw [s2]; exact nI_le (by omega) (by omega)) c⟩
        · subst e; exact ⟨by rw [s2, ← s1]; rfl, rfl⟩
        · subst e; exact ⟨by rw [s4, ← s3]; rfl, rfl⟩
        · subst e; exact ⟨by rw [s6, ← s5]; rfl, rfl⟩
        · subst e; exact ⟨by rw [s8, ← s7]; rfl, rfl⟩
        · subst e; exact ⟨by rw [s10, ← s9]; rfl, rfl⟩
        · subst e; exact ⟨by rw [s13, ← s12]; rfl, rfl⟩
        · subst e; exact ⟨rfl, rfl⟩
        · subst e; exact ⟨by rw [s14]; rfl, rfl⟩
        · subst e; exact ⟨rfl, rfl⟩
        · subst e; exact ⟨rfl, rfl⟩
        · unfold cntV
          rw [if_neg n0, if_neg n1, if_neg n2, if_neg n3, if_neg n4, if_neg n5, if_neg n6, if_neg n7, if_neg n8, if_neg n9]
          exact ⟨rfl, rfl⟩
      | succ m ih =>
        intro i hi
        refine b_X10_count_43 g gr (by decide) _ _ _ _ M ⟨fun c => ?_, fun _ => ⟨vp_in_nI (by omega) (by omega), ?_⟩⟩
        · rw [s2, nI_leI (by omega) (by omega)] at c; omega
        · intro x ex y ey
          rw [ex, ey, nI_1, nI_clamp (show i < 2 ^ 31 by omega), e75]
          exact ih (i + 1) (by omega)
    have l1 : ∀ (m i : Nat), i + m = np → At_X10_count_7 G a (cbt bb i) 0 (nI i) M := by
      intro m
      induction m with
      | zero =>
        intro i hi
        have : i = np := by omega
        subst this
        refine b_X10_count_7 g gr (by decide) _ _ _ _ M ⟨fun _ => ?_, fun c => absurd (by rw [s6]; exact nI_le (by omega) (by omega)) c⟩
        rw [cbt_pcn i h4 bb s16]
        exact l2 nd 0 (by omega)
      | succ m ih =>
        intro i hi
        refine b_X10_count_7 g gr (by decide) _ _ _ _ M ⟨fun c => ?_, fun _ => ⟨vp_in_nI (by omega) (by omega), ?_⟩⟩
        · rw [s6, nI_leI (by omega) (by omega)] at c; omega
        · intro x ex y ey
          rw [ex, ey, nI_1, nI_clamp (show i < 2 ^ 31 by omega), s17 i (by omega)]
          exact ih (i + 1) (by omega)
    exact l1 np 0 (by omega)
def bOn (b p : Nat) (on : Int32) : Nat := if on = 0 then b &&& (15 - 2 ^ p) else b ||| 2 ^ p
theorem bOn_bit : ∀ b, b < 16 → ∀ p, p < 4 → ∀ q, q < 4 → (b &&& (15 - 2 ^ p)).testBit q = (if q = p then false else b.testBit q) ∧ (b ||| 2 ^ p).testBit q = (if q = p then true else b.testBit q) := by decide +kernel
theorem bOn_lt {b p np : Nat} {on : Int32} (hb : b < 2 ^ np) (hp : p < np) : bOn b p on < 2 ^ np := by
  unfold bOn
  split
  · exact Nat.lt_of_le_of_lt Nat.and_le_left hb
  · exact Nat.or_lt_two_pow hb (Nat.pow_lt_pow_right (by omega) hp)
def tnC (M : MM) (b p h : Nat) (on : Int32) : MM :=
  ui (if on = 0 ∨ b.testBit p = true then M else ui M 21 p (nI h)) 15 6 (nI (bOn b p on))
theorem fn_X4_put {M : MM} {b p h : Nat} {on : Int32} (hp : p < 4) (hb : b < 16) (ho : M.1 15 6 = nI b) : Fn 2 mX4_put [.ref 15, .int (nI p), .int on, .int (nI h)] M none (tnC M b p h on) := fn_intro ok_X4_put (Nat.le_of_ble_eq_true rfl) fun G g gr => by
  have fin2 : ∀ N : MM, N.1 15 6 = nI b → tnC M b p h on = ui N 15 6 (nI (bOn b p on)) → At_X4_put_19 G (nI p) on (nI h) N := fun N h1 h2 => by
    refine b_X4_put_19 g gr (by decide) _ _ _ N ⟨fun c Q e => ⟨rfl, ?_⟩, fun c Q e => ⟨rfl, ?_⟩⟩
    · rw [h2, e, h1, bit_off b hb p hp]
      unfold bOn
      rw [if_pos c]
    · rw [h2, e, h1, bit_or b hb p hp]
      unfold bOn
      rw [if_neg c]
  refine b_X4_put_0 g gr (by decide) _ on _ M ⟨fun c => fin2 M ho ?_, fun c => ⟨_, _, fn_isOn hp hb ho, ?_⟩⟩
  · unfold tnC
    rw [if_pos (Or.inl c)]
  · cases hq : b.testBit p with
    | true =>
      refine ⟨fun _ => fin2 M ho ?_, fun e => absurd e (by decide)⟩
      unfold tnC
      rw [if_pos (Or.inr hq)]
    | false =>
      refine ⟨fun e => absurd rfl e, fun _ => ⟨vp_in_nI hp (by omega), fun Q e => ?_⟩⟩
      rw [nI_clamp (show p < 2 ^ 31 by omega)] at e
      refine fin2 Q (by rw [e, ui_diff (by decide)]; exact ho) ?_
      unfold tnC
      rw [e, if_neg (by rw [hq]; exact fun h => h.elim c (by decide))]
def tnM (M : MM) (b p h : Nat) (on : Int32) : MM :=
  ui (if on = 0 ∨ b.testBit p = true then M else ui M 90 p (nI h)) 89 p (vp_nar .boolean on)
theorem fn_turns {M : MM} {b p h : Nat} {on : Int32} (hp : p < 4) (zh : M.1 72 27 = nI h) (ho : M.1 89 p = bitI b p) : Fn 1 mX10_turns [.ref 72, .int (nI p), .int on] M none (tnM M b p h on) := fn_intro ok_X10_turns (Nat.le_of_ble_eq_true rfl) fun G g gr => by
  have cp : (nI p).toNatClampNeg = p := nI_clamp (by omega)
  refine b_X10_turns_0 g gr (by decide) _ on M ?_
  rw [cp, ho, zh]
  unfold tnM
  refine ⟨fun c => ⟨vp_in_nI hp (by omega), fun Q e => ⟨rfl, ?_⟩⟩, fun c => ⟨vp_in_nI hp (by omega), fun c2 Q e => ⟨rfl, ?_⟩, fun c2 Q e Q2 e2 => ⟨rfl, ?_⟩⟩⟩
  · rw [if_pos (Or.inl c), e]
  · rw [if_pos (Or.inr ?_), e]
    unfold bitI at c2
    cases hq : b.testBit p with
    | true => rfl
    | false => rw [hq] at c2; exact absurd rfl c2
  · rw [if_neg ?_, e2, e]
    unfold bitI at c2
    cases hq : b.testBit p with
    | true => rw [hq] at c2; exact absurd c2 (by decide)
    | false => exact fun h => h.elim c (by decide)

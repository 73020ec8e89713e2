/-! turn -/
section put
variable {M : MM} {b p h : Nat} {on : Int32}
theorem tnC_15 : (tnC M b p h on).1 15 = upd (M.1 15) 6 (nI (bOn b p on)) := by
  unfold tnC
  rw [ui_same]
  split
  · rfl
  · rw [ui_diff (by decide)]
theorem tnC_21 : (tnC M b p h on).1 21 = if on = 0 ∨ b.testBit p = true then M.1 21 else upd (M.1 21) p (nI h) := by
  unfold tnC
  rw [ui_diff (by decide)]
  split
  · rfl
  · rw [ui_same]
theorem tnC_off {k : Nat} (h1 : k ≠ 15) (h2 : k ≠ 21) : (tnC M b p h on).1 k = M.1 k := by
  unfold tnC
  rw [ui_diff h1]
  split
  · rfl
  · rw [ui_diff h2]
theorem tnM_89 : (tnM M b p h on).1 89 = upd (M.1 89) p (vp_nar .boolean on) := by
  unfold tnM
  rw [ui_same]
  split
  · rfl
  · rw [ui_diff (by decide)]
theorem tnM_90 : (tnM M b p h on).1 90 = if on = 0 ∨ b.testBit p = true then M.1 90 else upd (M.1 90) p (nI h) := by
  unfold tnM
  rw [ui_diff (by decide)]
  split
  · rfl
  · rw [ui_same]
theorem tnM_off {k : Nat} (h1 : k ≠ 89) (h2 : k ≠ 90) : (tnM M b p h on).1 k = M.1 k := by
  unfold tnM
  rw [ui_diff h1]
  split
  · rfl
  · rw [ui_diff h2]
end put
theorem inv_put {P Q : MM} {T nd nw np ns nwd h b p : Nat} {on : Int32} (i1 : Sz P nd nw np ns nwd h b) (i2 : Rel P) (i3 : VLd P.1 nd nw np ns) (i4 : VW P nwd) (i5 : VS P) (i6 : WB (P.1 7) nd (100000 * nd + 30000 * h)) (i7 : h ≤ T) (hp : p < np) (h01 : on = 0 ∨ on = 1)
    (q1 : Q.1 15 = (tnC P b p h on).1 15) (q2 : Q.1 21 = (tnC P b p h on).1 21) (q3 : Q.1 89 = (tnM P b p h on).1 89) (q4 : Q.1 90 = (tnM P b p h on).1 90) (qo : ∀ k, k ≠ 15 → k ≠ 21 → k ≠ 89 → k ≠ 90 → Q.1 k = P.1 k) : Sz Q nd nw np ns nwd h (bOn b p on) ∧ Rel Q ∧ VLd Q.1 nd nw np ns ∧ VW Q nwd ∧ VS Q ∧ WB (Q.1 7) nd (100000 * nd + 30000 * h) := by
  obtain ⟨s1, s2, s3, s4, s5, s6, s7, s8, s9, s10, s11, s12, s13, s14, s15, s16, s17⟩ := i1
  have h4 := i3.p4
  have hb16 : b < 16 := Nat.lt_of_lt_of_le s16 (Nat.pow_le_pow_right (n := 2) (by omega) h4)
  refine ⟨?_, ?_, i3.congr fun k hk => ?_, i4.congr fun k hk => qo k (by omega) (by omega) (by omega) (by omega), i5.congr fun k hk => qo k (by omega) (by omega) (by omega) (by omega), by rw [qo 7 (by decide) (by decide) (by decide) (by decide)]; exact i6⟩
  · unfold Sz
    rw [qo 2 (by decide) (by decide) (by decide) (by decide), qo 72 (by decide) (by decide) (by decide) (by decide), qo 10 (by decide) (by decide) (by decide) (by decide), qo 22 (by decide) (by decide) (by decide) (by decide), qo 32 (by decide) (by decide) (by decide) (by decide), qo 1 (by decide) (by decide) (by decide) (by decide), q1, q3, tnC_15, tnM_89]
    refine ⟨s1, s2, s3, s4, ?_, s6, s7, s8, s9, s10, s11, s12, s13, s14, upd_at _ _ _, bOn_lt s16 hp, fun j hj => ?_⟩
    · rw [upd_ne (by decide)]; exact s5
    · have bb := bOn_bit b hb16 p (by omega) j hj
      by_cases e : j = p
      · subst e
        rw [upd_at]
        unfold bitI bOn
        rcases h01 with rfl | rfl
        · rw [if_pos rfl, bb.1, if_pos rfl]; rfl
        · rw [if_neg (show ¬ (1 : Int32) = 0 by decide), bb.2, if_pos rfl]; rfl
      · rw [upd_ne e, s17 j hj]
        unfold bitI bOn
        rcases h01 with rfl | rfl
        · rw [if_pos (show (0 : Int32) = 0 from rfl), bb.1, if_neg e]
        · rw [if_neg (show ¬ (1 : Int32) = 0 by decide), bb.2, if_neg e]
  · intro z hz
    have h1 : ∀ z ∈ prs, z.1 ≤ 31 ∧ 73 ≤ z.2 ∧ z.1 ≠ 15 ∧ z.2 ≠ 89 ∧ (z.1 = 21 ↔ z.2 = 90) := by decide
    obtain ⟨g1, g2, g3, g4, g5⟩ := h1 z hz
    by_cases e : z.1 = 21
    · have := i2 z hz
      rw [e, g5.mp e] at this ⊢
      rw [q2, q4, tnC_21, tnM_90, this]
    · rw [qo _ g3 e (by omega) (by omega), qo z.2 (by omega) (by omega) g4 (fun c => e (g5.mpr c))]
      exact i2 z hz
  · have h2 : ∀ k ∈ rowL, k ≠ 15 ∧ k ≠ 21 ∧ k < 32 := by decide
    have := h2 k hk
    exact (qo k this.1 this.2.1 (by omega) (by omega)).symm
theorem runs_eq (x y : Int32) : (if x ≤ y then (0 : Int32) else 1) = 0 ↔ x ≤ y := by
  by_cases c : x ≤ y
  · rw [if_pos c]; exact ⟨fun _ => c, fun _ => rfl⟩
  · rw [if_neg c]; exact ⟨fun e => absurd e (by decide), fun e => absurd e c⟩
theorem case_turn {M : MM} {T : Nat} (I : Inv M T) (hT : T ≤ 20000) (a on : Int32) (h01 : on = 0 ∨ on = 1) : ∃ (r : Int32) (M1 M2 : MM), Fn 5 mX9_turn [.ref 0, .int a, .int on] M (some (.int r)) M1 ∧ Fn 2 mX10_turn [.ref 72, .int a, .int on] M1 (some (.int r)) M2 ∧ Inv M2 T := by
  obtain ⟨nd, nw, np, ns, nwd, h, b, i1, i2, i3, i4, i5, i6, i7⟩ := id I
  obtain ⟨s1, s2, s3, s4, s5, s6, s7, s8, s9, s10, s11, s12, s13, s14, s15, s16, s17⟩ := id i1
  have h4 := i3.p4
  have hb16 : b < 16 := Nat.lt_of_lt_of_le s16 (Nat.pow_le_pow_right (n := 2) (by omega) h4)
  rcases hasV_cases (n := np) (by omega) a with no | ⟨p, hp, rfl⟩
  · refine ⟨-1, M, M, fn_intro ok_X9_turn (Nat.le_of_ble_eq_true rfl) fun G g gr => ?_, fn_intro ok_X10_turn (Nat.le_of_ble_eq_true rfl) fun G g gr => ?_, I⟩
    · exact b_X9_turn_0 g gr (by decide) a on M ⟨_, _, fhasP s5 a, fun c => absurd no c, fun _ => ⟨rfl, rfl⟩⟩
    · exact b_X10_turn_0 g gr (by decide) a on M ⟨_, _, fis (by omega) s6 a M, fun c => absurd no c, fun _ => ⟨rfl, rfl⟩⟩
  · have yes : ¬ hasV (nI np) (nI p) = 0 := by rw [hasV_in hp (by omega)]; decide
    have hp4 : p < 4 := by omega
    have cp : (nI p).toNatClampNeg = p := nI_clamp (by omega)
    obtain ⟨hh, h2⟩ : ∃ hh : Nat, hh = h ∧ True := ⟨h, rfl, trivial⟩
    by_cases hb : h < 2 ^ 30
    · -- what keeps a pump from turning
      have stop : (b.testBit p = true ∧ on = 0 ∧ ¬ M.1 19 p ≤ nI h - M.1 21 p) ∨ (b.testBit p = false ∧ on = 1 ∧ pz M.1 p h = true) ∨ ((on = 0 → b.testBit p = true → M.1 19 p ≤ nI h - M.1 21 p) ∧ (on = 1 → b.testBit p = false → pz M.1 p h = false)) := by
        rcases h01 with rfl | rfl
        · by_cases c : b.testBit p = true ∧ ¬ M.1 19 p ≤ nI h - M.1 21 p
          · exact Or.inl ⟨c.1, rfl, c.2⟩
          · exact Or.inr (Or.inr ⟨fun _ c1 => Classical.byContradiction fun c2 => c ⟨c1, c2⟩, fun e => absurd e (by decide)⟩)
        · by_cases c : b.testBit p = false ∧ pz M.1 p h = true
          · exact Or.inr (Or.inl ⟨c.1, rfl, c.2⟩)
          · refine Or.inr (Or.inr ⟨fun e => absurd e (by decide), fun _ c1 => ?_⟩)
            cases hz : pz M.1 p h with
            | false => rfl
            | true => exact absurd ⟨c1, hz⟩ c
      have e87 : M.1 87 = M.1 19 := i2 (19, 87) (by decide)
      have e90 : M.1 90 = M.1 21 := i2 (21, 90) (by decide)
      have epz : pz (mS M) p h = pz M.1 p h := (pz_congr (rel_row i2) p h).symm
      have fon := fn_isOn hp4 hb16 s15
      have frun : Fn 2 mX4_mustRunOn [.ref 15, .int (nI p), .int (nI h)] M (some (.int (if b.testBit p = true then (if M.1 19 p ≤ nI h - M.1 21 p then 0 else 1) else 0))) M := fn_intro ok_X4_mustRunOn (Nat.le_of_ble_eq_true rfl) fun G g gr => by
        refine b_X4_mustRunOn_0 g gr (by decide) _ _ M ⟨_, _, fon, ?_⟩
        rw [cp]
        cases hq : b.testBit p with
        | true => exact ⟨fun e => absurd e (by decide), fun _ => ⟨vp_in_nI hp4 (by omega), ite_01, rfl, rfl⟩⟩
        | false => exact ⟨fun _ => ⟨rfl, rfl⟩, fun e => absurd rfl e⟩
      have foff : Fn 4 mX4_mustStayOff [.ref 15, .int (nI p), .int (nI h)] M (some (.int (if b.testBit p = true then 0 else if pz M.1 p h = true then 1 else 0))) M := fn_intro ok_X4_mustStayOff (Nat.le_of_ble_eq_true rfl) fun G g gr => by
        refine b_X4_mustStayOff_0 g gr (by decide) _ _ M ⟨_, _, fon, ?_⟩
        cases hq : b.testBit p with
        | true => exact ⟨fun _ => ⟨rfl, rfl⟩, fun e => absurd e (by decide)⟩
        | false =>
          refine ⟨fun e => absurd rfl e, fun _ => ⟨_, _, fn_pausesAt hp4 (show h < 2 ^ 31 by omega), ite_01, ?_⟩⟩
          cases pz M.1 p h <;> exact ⟨rfl, rfl⟩
      have fpa : Fn 1 mX10_isPaused [.ref 72, .int (nI p), .int (nI h)] M (some (.int (if pz M.1 p h = true then 1 else 0))) M := by
        have := fn_isPaused (M := M) hp4 (show h < 2 ^ 31 by omega)
        rw [epz] at this
        exact this
      rcases stop with ⟨c1, rfl, c3⟩ | ⟨c1, rfl, c3⟩ | ⟨c1, c2⟩
      · refine ⟨-2, M, M, fn_intro ok_X9_turn (Nat.le_of_ble_eq_true rfl) fun G g gr => ?_, fn_intro ok_X10_turn (Nat.le_of_ble_eq_true rfl) fun G g gr => ?_, I⟩
        · refine b_X9_turn_0 g gr (by decide) _ _ M ⟨_, _, fhasP s5 _, fun _ => ⟨fun _ => ⟨_, _, by rw [s12]; exact frun, ?_⟩, fun e => absurd rfl e⟩, fun c => absurd c yes⟩
          rw [if_pos c1, if_neg c3]
          exact ⟨fun e => absurd e (by decide), fun _ => ⟨rfl, rfl⟩⟩
        · refine b_X10_turn_0 g gr (by decide) _ _ M ⟨_, _, fis (by omega) s6 _ M, fun _ => ⟨fun _ => ⟨vp_in_nI hp4 (by omega), ?_⟩, fun e => absurd rfl e⟩, fun c => absurd c yes⟩
          rw [cp, s17 p hp4, e87, e90, s13]
          unfold bitI
          rw [if_pos c1]
          exact ⟨fun e => absurd e (by decide), fun _ => ⟨fun e => absurd e c3, fun _ => ⟨rfl, rfl⟩⟩⟩
      · refine ⟨-2, M, M, fn_intro ok_X9_turn (Nat.le_of_ble_eq_true rfl) fun G g gr => ?_, fn_intro ok_X10_turn (Nat.le_of_ble_eq_true rfl) fun G g gr => ?_, I⟩
        · refine b_X9_turn_0 g gr (by decide) _ _ M ⟨_, _, fhasP s5 _, fun _ => ⟨fun e => absurd e (by decide), fun _ => ⟨_, _, by rw [s12]; exact foff, ?_⟩⟩, fun c => absurd c yes⟩
          rw [c1, c3]
          exact ⟨fun e => absurd e (by decide), fun _ => ⟨rfl, rfl⟩⟩
        · refine b_X10_turn_0 g gr (by decide) _ _ M ⟨_, _, fis (by omega) s6 _ M, fun _ => ⟨fun e => absurd e (by decide), fun _ => ⟨vp_in_nI hp4 (by omega), ?_⟩⟩, fun c => absurd c yes⟩
          rw [cp, s17 p hp4, s13]
          unfold bitI
          rw [c1]
          refine ⟨fun e => absurd rfl e, fun _ => ⟨_, _, fpa, ?_⟩⟩
          rw [c3]
          exact ⟨fun e => absurd e (by decide), fun _ => ⟨rfl, rfl⟩⟩
      · have fput := fn_X4_put (h := h) (on := on) hp4 hb16 s15
        have cc72 : (tnC M b p h on).1 72 27 = nI h := by rw [tnC_off (by decide) (by decide)]; exact s13
        have cc89 : (tnC M b p h on).1 89 p = bitI b p := by rw [tnC_off (by decide) (by decide)]; exact s17 p hp4
        have ftn := fn_turns (on := on) hp4 cc72 cc89
        have cB : (if (if b.testBit p = true then (1 : Int32) else 0) = 0 then (0 : Int32) else 1) = bitI b p := by
          unfold bitI
          cases b.testBit p <;> rfl
        have cB2 : (if bitI b p = 0 then (0 : Int32) else 1) = bitI b p := by
          unfold bitI
          cases b.testBit p <;> rfl
        refine ⟨bitI b p, tnC M b p h on, tnM (tnC M b p h on) b p h on, fn_intro ok_X9_turn (Nat.le_of_ble_eq_true rfl) fun G g gr => ?_, fn_intro ok_X10_turn (Nat.le_of_ble_eq_true rfl) fun G g gr => ?_, ?_⟩
        · refine b_X9_turn_0 g gr (by decide) _ _ M ⟨_, _, fhasP s5 _, fun _ => ⟨fun e0 => ⟨_, _, by rw [s12]; exact frun, ?_⟩, fun e0 => ⟨_, _, by rw [s12]; exact foff, ?_⟩⟩, fun c => absurd c yes⟩
          · have z : (if b.testBit p = true then (if M.1 19 p ≤ nI h - M.1 21 p then (0 : Int32) else 1) else 0) = 0 := by
              cases hq : b.testBit p with
              | false => rfl
              | true => rw [if_pos rfl, if_pos (c1 e0 hq)]
            rw [z]
            refine ⟨fun _ => ⟨_, _, fon, fun x ex => ⟨_, by rw [s12]; exact fput, ?_⟩⟩, fun e => absurd rfl e⟩
            rw [ex, cB]
            exact ⟨rfl, rfl⟩
          · have z : (if b.testBit p = true then (0 : Int32) else if pz M.1 p h = true then 1 else 0) = 0 := by
              cases hq : b.testBit p with
              | true => rfl
              | false => rw [c2 (h01.resolve_left e0) hq]; rfl
            rw [z]
            refine ⟨fun _ => ⟨_, _, fon, fun x ex => ⟨_, by rw [s12]; exact fput, ?_⟩⟩, fun e => absurd rfl e⟩
            rw [ex, cB]
            exact ⟨rfl, rfl⟩
        · have o87 : (tnC M b p h on).1 87 = M.1 19 := by rw [tnC_off (by decide) (by decide)]; exact e87
          have o90 : (tnC M b p h on).1 90 = M.1 21 := by rw [tnC_off (by decide) (by decide)]; exact e90
          have o88 : mS (tnC M b p h on) 20 = mS M 20 := by unfold mS mp; rw [tnC_off (by decide) (by decide)]
          have fpa2 : Fn 1 mX10_isPaused [.ref 72, .int (nI p), .int (nI h)] (tnC M b p h on) (some (.int (if pz M.1 p h = true then 1 else 0))) (tnC M b p h on) := by
            have := fn_isPaused (M := tnC M b p h on) hp4 (show h < 2 ^ 31 by omega)
            rw [show pz (mS (tnC M b p h on)) p h = pz M.1 p h by rw [← epz]; unfold pz; rw [o88]] at this
            exact this
          have s6' : (tnC M b p h on).1 72 13 = nI np := by rw [tnC_off (by decide) (by decide)]; exact s6
          generalize hC : tnC M b p h on = C at *
          have fin9 : At_X10_turn_78 G (nI p) on C := by
            refine b_X10_turn_78 g gr (by decide) _ _ C ⟨vp_in_nI hp4 (by omega), ?_⟩
            rw [cp, cc89]
            intro x ex
            exact ⟨_, ftn, by rw [ex, cB2], rfl⟩
          refine b_X10_turn_0 g gr (by decide) _ _ C ⟨_, _, fis (by omega) s6' _ C, fun _ => ⟨fun e0 => ⟨vp_in_nI hp4 (by omega), ?_⟩, fun e0 => ⟨vp_in_nI hp4 (by omega), ?_⟩⟩, fun c => absurd c yes⟩
          · rw [cp, cc89, o87, o90, cc72]
            refine ⟨fun _ => fin9, fun c => ⟨fun _ => fin9, fun c3 => ?_⟩⟩
            have hq : b.testBit p = true := by
              unfold bitI at c
              cases hq : b.testBit p with
              | true => rfl
              | false => rw [hq] at c; exact absurd rfl c
            exact absurd (c1 e0 hq) c3
          · rw [cp, cc89, cc72]
            refine ⟨fun _ => fin9, fun c => ⟨_, _, fpa2, ?_⟩⟩
            have hq : b.testBit p = false := by
              unfold bitI at c
              cases hq : b.testBit p with
              | false => rfl
              | true => rw [hq] at c; exact absurd c (by decide)
            rw [c2 (h01.resolve_left e0) hq]
            exact ⟨fun _ => fin9, fun e => absurd rfl e⟩
        · have := inv_put (Q := tnM (tnC M b p h on) b p h on) i1 i2 i3 i4 i5 i6 i7 hp h01 (tnM_off (by decide) (by decide)) (tnM_off (by decide) (by decide)) (by rw [tnM_89, tnM_89, tnC_off (by decide) (by decide)]) (by rw [tnM_90, tnM_90, tnC_off (by decide) (by decide)]) (fun k h1 h2 h3 h4 => by rw [tnM_off h3 h4, tnC_off h1 h2])
          exact ⟨nd, nw, np, ns, nwd, h, _, this.1, this.2.1, this.2.2.1, this.2.2.2.1, this.2.2.2.2.1, this.2.2.2.2.2, i7⟩
    · exact absurd (show h < 2 ^ 30 by omega) hb

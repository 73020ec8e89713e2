/-! follow -/
def HR (P D : MM) : Prop := (∀ j, 72 ≤ j → j ≠ 72 → ¬ (100 ≤ j ∧ j ≤ 103) → P.1 j = D.1 j) ∧ ∀ i, i ≠ 38 → P.1 72 i = D.1 72 i
theorem follow_loop {y T : Nat} {n : Int32} (hy : y < 4096) (hT : T ≤ 20000) : ∀ (m p : Nat) (acc : Int32) (C P : MM) (nd nw np ns nwd h b : Nat), p + m = min np 2 → Sz P nd nw np ns nwd h b → Rel P → VLd P.1 nd nw np ns → VW P nwd → VS P → WB (P.1 7) nd (100000 * nd + 30000 * h) → h ≤ T → (∀ q, q < 72 → P.1 q = C.1 q) → C.1 37 5 = nI y →
    ∃ (r : Int32) (C' Q : MM), (∀ G, Good G mX9_follow 15 → GoodR G (some (.int r)) C' → At_X9_follow_21 G n acc (nI p) C) ∧ Inv Q T ∧ (∀ q, q < 72 → Q.1 q = C'.1 q) ∧ (∀ q, 72 ≤ q → C'.1 q = C.1 q) ∧
      ∀ D : MM, HR P D → D.1 72 38 = nI y → ∃ D', (∀ G, Good G mX10_follow 5 → GoodR G (some (.int r)) D' → At_X10_follow_23 G n acc (nI p) D) ∧ HR Q D' ∧ (∀ q, q < 72 → D'.1 q = D.1 q)
  | 0, p, acc, C, P, nd, nw, np, ns, nwd, h, b, hpm, i1, i2, i3, i4, i5, i6, i7, hC, h37 => by
    have h4 := i3.p4
    obtain ⟨s1, s2, s3, s4, s5, s6, s7, s8, s9, s10, s11, s12, s13, s14, s15, s16, s17⟩ := id i1
    refine ⟨acc, C, P, fun G g gr => ?_, ⟨nd, nw, np, ns, nwd, h, b, i1, i2, i3, i4, i5, i6, i7⟩, hC, fun _ _ => rfl, fun D hD hD2 => ⟨D, fun G g gr => ?_, hD, fun _ _ => rfl⟩⟩
    · exact b_X9_follow_21 g gr (by decide) _ _ _ C ⟨_, _, fn_inPlans h4 (by rw [← hC 15 (by decide)]; exact s5), fun _ => ⟨rfl, rfl⟩, fun c => absurd (nI_le (by omega) (by omega)) c⟩
    · refine b_X10_follow_23 g gr (by decide) _ _ _ D ⟨fun _ => ⟨rfl, rfl⟩, fun c => ⟨fun _ => ⟨rfl, rfl⟩, fun c2 => ?_⟩⟩
      exfalso
      rw [show (2 : Int32) = nI 2 from rfl, nI_leI (by omega) (by omega)] at c
      rw [← hD.2 13 (by decide), s6, nI_leI (by omega) (by omega)] at c2
      omega
  | m + 1, p, acc, C, P, nd, nw, np, ns, nwd, h, b, hpm, i1, i2, i3, i4, i5, i6, i7, hC, h37 => by
    have h4 := i3.p4
    obtain ⟨s1, s2, s3, s4, s5, s6, s7, s8, s9, s10, s11, s12, s13, s14, s15, s16, s17⟩ := id i1
    have hb16 : b < 16 := Nat.lt_of_lt_of_le s16 (Nat.pow_le_pow_right (n := 2) (by omega) h4)
    have hp4 : p < 4 := by omega
    have cp : (nI p).toNatClampNeg = p := nI_clamp (by omega)
    generalize hon : (if tl y 0 p then (1 : Int32) else 0) = on
    have h01 : on = 0 ∨ on = 1 := by rw [← hon]; cases tl y 0 p <;> simp
    have c15 : C.1 15 6 = nI b := by rw [← hC 15 (by decide)]; exact s15
    have c17 : C.1 1 7 = nI h := by rw [← hC 1 (by decide)]; exact s12
    have fput := fn_X4_put (h := h) (on := on) hp4 hb16 c15
    generalize hQ : mrg (tnC C b p h on) (tnM P b p h on) = Q
    have q15 : Q.1 15 = (tnC P b p h on).1 15 := by rw [← hQ, mrg_lo (by decide), tnC_15, tnC_15, hC 15 (by decide)]
    have q21 : Q.1 21 = (tnC P b p h on).1 21 := by rw [← hQ, mrg_lo (by decide), tnC_21, tnC_21, hC 21 (by decide)]
    have q89 : Q.1 89 = (tnM P b p h on).1 89 := by rw [← hQ, mrg_hi (by decide)]
    have q90 : Q.1 90 = (tnM P b p h on).1 90 := by rw [← hQ, mrg_hi (by decide)]
    have qo : ∀ k, k ≠ 15 → k ≠ 21 → k ≠ 89 → k ≠ 90 → Q.1 k = P.1 k := fun k a1 a2 a3 a4 => by
      rw [← hQ]
      by_cases e : k < 72
      · rw [mrg_lo e, tnC_off a1 a2, hC k e]
      · rw [mrg_hi (by omega), tnM_off a3 a4]
    obtain ⟨j1, j2, j3, j4, j5, j6⟩ := inv_put i1 i2 i3 i4 i5 i6 i7 (show p < np by omega) h01 q15 q21 q89 q90 qo
    have lowQ : ∀ q, q < 72 → Q.1 q = (tnC C b p h on).1 q := fun q hq => by rw [← hQ, mrg_lo hq]
    obtain ⟨r, C', Q', k1, k2, k3, k4, k5⟩ := follow_loop hy hT m (p + 1) (acc + on) (tnC C b p h on) Q nd nw np ns nwd h (bOn b p on) (by omega) j1 j2 j3 j4 j5 j6 i7 lowQ (by rw [tnC_off (by decide) (by decide)]; exact h37)
    have e01 : (if on = (0 : Int32) then (0 : Int32) else 1) = on := by
      rcases h01 with rfl | rfl <;> rfl
    refine ⟨r, C', Q', fun G g gr => ?_, k2, k3, fun q hq => by rw [k4 q hq, tnC_off (by omega) (by omega)], fun D hD hD2 => ?_⟩
    · refine b_X9_follow_21 g gr (by decide) _ _ _ C ⟨_, _, fn_inPlans h4 (by rw [← hC 15 (by decide)]; exact s5), fun c => ?_, fun _ => ⟨_, _, by rw [h37]; exact fn_tells (k := 0) hy (by decide) (by omega), _, by rw [hon, c17]; exact fput, fun z ez u eu => ?_⟩⟩
      · rw [nI_leI (by omega) (by omega)] at c; omega
      · rw [ez, eu, hon, e01, nI_1]
        exact k1 G g gr
    · have d27 : D.1 72 27 = nI h := by rw [← hD.2 27 (by decide)]; exact s13
      have d89 : D.1 89 p = bitI b p := by rw [← hD.1 89 (by decide) (by decide) (by decide)]; exact s17 p hp4
      have ftn := fn_turns (on := on) hp4 d27 d89
      have HR1 : HR Q (tnM D b p h on) := by
        refine ⟨fun j a1 a2 a3 => ?_, fun i hi => ?_⟩
        · by_cases e : j = 89
          · subst e; rw [q89, tnM_89, tnM_89, hD.1 89 (by decide) (by decide) (by decide)]
          by_cases e2 : j = 90
          · subst e2; rw [q90, tnM_90, tnM_90, hD.1 90 (by decide) (by decide) (by decide)]
          rw [qo j (by omega) (by omega) e e2, tnM_off e e2]
          exact hD.1 j a1 a2 a3
        · rw [qo 72 (by decide) (by decide) (by decide) (by decide), tnM_off (by decide) (by decide)]
          exact hD.2 i hi
      obtain ⟨D', g1, g2, g3⟩ := k5 (tnM D b p h on) HR1 (by rw [tnM_off (by decide) (by decide)]; exact hD2)
      refine ⟨D', fun G g gr => ?_, g2, fun q hq => by rw [g3 q hq, tnM_off (by omega) (by omega)]⟩
      refine b_X10_follow_23 g gr (by decide) _ _ _ D ⟨fun c => ?_, fun _ => ⟨fun c => ?_, fun _ => ⟨_, _, by rw [hD2]; exact fn_isIn (k := 0) hy (by decide) (by omega), _, by rw [hon]; exact ftn, vp_in_nI (by omega) (by omega), fun z ez u eu => ?_⟩⟩⟩
      · rw [show (2 : Int32) = nI 2 from rfl, nI_leI (by omega) (by omega)] at c; omega
      · rw [← hD.2 13 (by decide), s6, nI_leI (by omega) (by omega)] at c; omega
      · have e89 : (tnM D b p h on).1 89 p = on := by
          rw [tnM_89, upd_at]
          rcases h01 with e | e <;> rw [e] <;> rfl
        rw [ez, eu, cp, e89, e01, nI_1]
        exact g1 G g gr
theorem EM.hi {X : PX} {M M' : MM} (h : ∀ j, 72 ≤ j → M'.1 j = M.1 j) (E : EM X M) : EM X M' := by
  obtain ⟨e0, e1, e2, e3, e4, ⟨nwd, t1, t2, t3, t4, t5⟩, e6, e7, e8⟩ := E
  refine ⟨fun k hk => ?_, ?_, ?_, ?_, ?_, ⟨nwd, t1, ?_, t3, fun w hw k hk => ?_, t5⟩, ?_, fun p hp => ?_, ?_⟩
  · rw [e0 k hk]
    have := mp_72 k
    unfold mS
    rw [h _ this]
  · rw [h 72 (by decide)]; exact e1
  · rw [h 72 (by decide)]; exact e2
  · rw [h 72 (by decide)]; exact e3
  · rw [h 72 (by decide)]; exact e4
  · rw [h 72 (by decide)]; exact t2
  · rw [h 99 (by decide)]; exact t4 w hw k hk
  · rw [h 72 (by decide)]; exact e6
  · rw [h 89 (by decide)]; exact e7 p hp
  · rw [h 75 (by decide)]; exact e8
theorem case_follow {M : MM} {T : Nat} (I : Inv M T) (hT : T ≤ 20000) (a : Int32) : ∃ (r : Int32) (M1 M2 : MM), Fn 15 mX9_follow [.ref 0, .int a] M (some (.int r)) M1 ∧ Fn 5 mX10_follow [.ref 72, .int a] M1 (some (.int r)) M2 ∧ Inv M2 T := by
  by_cases bad : wth a 1 6 = 0
  · refine ⟨-1, M, M, fn_intro ok_X9_follow (Nat.le_of_ble_eq_true rfl) fun G g gr => ?_, fn_intro ok_X10_follow (Nat.le_of_ble_eq_true rfl) fun G g gr => ?_, I⟩
    · exact b_X9_follow_0 g gr (by decide) a M ⟨_, _, fn_X9_isPlanned _ _, fun c => absurd bad c, fun _ => ⟨rfl, rfl⟩⟩
    · exact b_X10_follow_0 g gr (by decide) a M ⟨_, _, fin a 1 6 rfl rfl M, fun c => absurd bad c, fun _ => ⟨rfl, rfl⟩⟩
  · obtain ⟨n, h1, hn, rfl⟩ := toNI (lo := 1) (hi := 6) (by omega) (by omega) bad
    have hpn := pow_n hn
    -- the class's search ends in C; from there it turns pumps
    obtain ⟨X, V, E, EMm⟩ := inv_x I hT
    obtain ⟨C, B, f1, o1, b1, B1⟩ := fn_seek V E h1 hn
    have IC : Inv C T := I.rows (fun k h1 h2 => o1 k h1 (by omega))
    obtain ⟨y, y1, y2, y3, y4⟩ := B1.1
    have e22 : B.2.2 = y := by rw [y4]; rfl
    obtain ⟨nd, nw, np, ns, nwd, h, b, i1, i2, i3, i4, i5, i6, i7⟩ := IC
    obtain ⟨r, C', Q, k1, k2, k3, k4, k5⟩ := follow_loop (y := y) (n := nI n) (by omega) hT (min np 2) 0 0 C C nd nw np ns nwd h b (Nat.zero_add _) i1 i2 i3 i4 i5 i6 i7 (fun _ _ => rfl) (by rw [b1.2.2.1, e22])
    have EC' : EM X C' := (EMm.pl o1).hi k4
    obtain ⟨D, B', f2, o2, B2, c1, c2, c3⟩ := fn_findPlan V EC' h1 hn
    have eB := B1.uniq B2
    subst eB
    obtain ⟨D', g1, g2, g3⟩ := k5 D ⟨fun j h1 h2 h3 => by rw [o2.1 j h2 h3, k4 j h1], fun i hi => by rw [o2.2 i hi, k4 72 (by decide)]⟩ (by rw [c1, e22])
    refine ⟨r, C', D', fn_intro ok_X9_follow (Nat.le_of_ble_eq_true rfl) fun G g gr => ?_, fn_intro ok_X10_follow (Nat.le_of_ble_eq_true rfl) fun G g gr => ?_, ?_⟩
    · exact b_X9_follow_0 g gr (by decide) _ M ⟨_, _, fn_X9_isPlanned _ _, fun _ => ⟨C, f1, k1 G g gr⟩, fun c => absurd c bad⟩
    · exact b_X10_follow_0 g gr (by decide) _ C' ⟨_, _, fin _ 1 6 rfl rfl C', fun _ => ⟨D, f2, g1 G g gr⟩, fun c => absurd c bad⟩
    · refine k2.plan (fun k a b c d => ?_) (fun i hi => ?_)
      · by_cases e : k < 72
        · rw [g3 k e, o2.1 k c d, k3 k e]
        · exact (g2.1 k (by omega) c d).symm
      · exact (g2.2 i hi).symm

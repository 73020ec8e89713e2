/-! water below nd alone matters; breaches are numbers -/
theorem upd_low {W W' : Nat → Int32} {nd a : Nat} {x : Int32} (h : ∀ d, d < nd → W d = W' d) : ∀ d, d < nd → upd W a x d = upd W' a x d := fun d hd => by
  by_cases e : d = a
  · subst e; rw [upd_at, upd_at]
  · rw [upd_ne e, upd_ne e]; exact h d hd
theorem shf_low {W W' : Nat → Int32} {nd a b : Nat} {x : Int32} (h : ∀ d, d < nd → W d = W' d) (ha : a < nd) (hb : b < nd) : ∀ d, d < nd → shf W a b x d = shf W' a b x d := by
  unfold shf
  have h1 : ∀ d, d < nd → upd W a (W a - x) d = upd W' a (W' a - x) d := by rw [h a ha]; exact upd_low h
  rw [h1 b hb]
  exact upd_low h1
theorem shf_hi {W : Nat → Int32} {nd a b : Nat} {x : Int32} (ha : a < nd) (hb : b < nd) {d : Nat} (hd : nd ≤ d) : shf W a b x d = W d := by
  unfold shf
  rw [upd_ne (by omega), upd_ne (by omega)]
section low
variable {S : SS} {nd nw np ns : Nat}
theorem wvm_low {W W' : Nat → Int32} {a b k : Nat} (h : ∀ d, d < nd → W d = W' d) (ha : a < nd) (hb : b < nd) : wvm S W a b k = wvm S W' a b k := by
  unfold wvm lev
  rw [h a ha, h b hb]
theorem wW_low (V : VLd S nd nw np ns) {W W' : Nat → Int32} (h : ∀ d, d < nd → W d = W' d) : ∀ k, k ≤ nw → (∀ d, d < nd → wW S W k d = wW S W' k d) ∧ ∀ d, nd ≤ d → wW S W k d = W d
  | 0, _ => ⟨h, fun _ _ => rfl⟩
  | k + 1, hk => by
    obtain ⟨i1, i2⟩ := wW_low V h k (by omega)
    have h6 := V.d6
    obtain ⟨a, b, x, ha, hb, hab, x1, x2, ea, eb, ex⟩ := V.w (show k < nw by omega)
    have qa : wA S k = a := by unfold wA; rw [ea, nI_clamp (by omega)]
    have qb : wB S k = b := by unfold wB; rw [eb, nI_clamp (by omega)]
    unfold wW
    rw [qa, qb, ← wvm_low i1 ha hb]
    exact ⟨shf_low i1 ha hb, fun d hd => by rw [shf_hi ha hb hd]; exact i2 d hd⟩
theorem pst_low (V : VLd S nd nw np ns) {W W' : Nat → Int32} {k : Nat} {v : Int32} (hk : k < np) (h : ∀ d, d < nd → W d = W' d) : (∀ d, d < nd → pst S W k v d = pst S W' k v d) ∧ ∀ d, nd ≤ d → pst S W k v d = W d := by
  have h6 := V.d6
  obtain ⟨a, ha, ea, et⟩ := V.p hk
  have qa : pA S k = a := by unfold pA; rw [ea, nI_clamp (by omega)]
  unfold pst
  rw [qa]
  by_cases q : S 17 k = -4
  · rw [if_pos q, if_pos q, h a ha]
    exact ⟨upd_low h, fun d hd => upd_ne (by omega)⟩
  · rw [if_neg q, if_neg q]
    rcases et with et | ⟨t, ht, hat, et⟩
    · exact absurd et q
    · rw [et, nI_clamp (by omega)]
      exact ⟨shf_low h ha ht, fun d hd => shf_hi ha ht hd⟩
theorem pW_low (V : VLd S nd nw np ns) {b : Nat} {W W' : Nat → Int32} (h : ∀ d, d < nd → W d = W' d) : ∀ k, k ≤ np → (∀ d, d < nd → pW S b W k d = pW S b W' k d) ∧ ∀ d, nd ≤ d → pW S b W k d = W d
  | 0, _ => ⟨h, fun _ _ => rfl⟩
  | k + 1, hk => by
    obtain ⟨i1, i2⟩ := pW_low V (b := b) h k (by omega)
    have h6 := V.d6
    obtain ⟨a, ha, ea, -⟩ := V.p (show k < np by omega)
    have qa : pA S k = a := by unfold pA; rw [ea, nI_clamp (by omega)]
    have ev : pvm S (pW S b W k) b k = pvm S (pW S b W' k) b k := by
      unfold pvm
      rw [qa, i1 a ha]
    unfold pW
    rw [← ev]
    obtain ⟨j1, j2⟩ := pst_low V (v := pvm S (pW S b W k) b k) (show k < np by omega) i1
    exact ⟨j1, fun d hd => by rw [j2 d hd]; exact i2 d hd⟩
theorem sW_low (V : VLd S nd nw np ns) {i : Nat} {W W' : Nat → Int32} (h : ∀ d, d < nd → W d = W' d) : ∀ k, k ≤ ns → (∀ d, d < nd → sW S i W k d = sW S i W' k d) ∧ ∀ d, nd ≤ d → sW S i W k d = W d
  | 0, _ => ⟨h, fun _ _ => rfl⟩
  | k + 1, hk => by
    obtain ⟨i1, i2⟩ := sW_low V (i := i) h k (by omega)
    have h6 := V.d6
    obtain ⟨⟨a, ha, ea⟩, -⟩ := V.s (show k < ns by omega)
    have qa : sA S k = a := by unfold sA; rw [ea, nI_clamp (by omega)]
    have ev : svm S (sW S i W k) i k = svm S (sW S i W' k) i k := by
      unfold svm lev
      rw [qa, i1 a ha]
    unfold sW
    rw [← ev]
    unfold sst
    rw [qa, i1 a ha]
    exact ⟨upd_low i1, fun d hd => by rw [upd_ne (by omega)]; exact i2 d hd⟩
theorem mvS_low (V : VLd S nd nw np ns) {rain : Int32} {i b : Nat} {W W' : Nat → Int32} (h : ∀ d, d < nd → W d = W' d) : (∀ d, d < nd → mvS S nd nw np ns rain i b W d = mvS S nd nw np ns rain i b W' d) ∧ ∀ d, nd ≤ d → mvS S nd nw np ns rain i b W d = W d := by
  have h0 : ∀ d, d < nd → mvR S nd rain W d = mvR S nd rain W' d := fun d hd => by
    unfold mvR
    rw [pre_lt hd, pre_lt hd]
    unfold rnW
    rw [h d hd]
  have h0' : ∀ d, nd ≤ d → mvR S nd rain W d = W d := fun d hd => by
    unfold mvR pre
    rw [if_neg (by omega)]
  obtain ⟨a1, a2⟩ := wW_low V h0 nw (Nat.le_refl _)
  obtain ⟨b1, b2⟩ := pW_low V (b := b) a1 np (Nat.le_refl _)
  obtain ⟨c1, c2⟩ := sW_low V (i := i) b1 ns (Nat.le_refl _)
  exact ⟨c1, fun d hd => by rw [show mvS S nd nw np ns rain i b W = sW S i (pW S b (wW S (mvR S nd rain W) nw) np) ns from rfl, c2 d hd, b2 d hd, a2 d hd, h0' d hd]⟩
theorem oP_hi (V : VLd S nd nw np ns) {F O : Nat → Int32} : ∀ k, k ≤ np → ∀ d, nd ≤ d → oP S F O k d = O d
  | 0, _, _, _ => rfl
  | k + 1, hk, d, hd => by
    have ih := oP_hi V (F := F) (O := O) k (by omega) d hd
    have h6 := V.d6
    obtain ⟨a, ha, ea, -⟩ := V.p (show k < np by omega)
    have qa : pA S k = a := by unfold pA; rw [ea, nI_clamp (by omega)]
    unfold oP
    split
    · rw [qa, upd_ne (by omega)]; exact ih
    · exact ih
theorem oS_hi (V : VLd S nd nw np ns) {F O : Nat → Int32} : ∀ k, k ≤ ns → ∀ d, nd ≤ d → oS S F O k d = O d
  | 0, _, _, _ => rfl
  | k + 1, hk, d, hd => by
    have ih := oS_hi V (F := F) (O := O) k (by omega) d hd
    have h6 := V.d6
    obtain ⟨⟨a, ha, ea⟩, -⟩ := V.s (show k < ns by omega)
    have qa : sA S k = a := by unfold sA; rw [ea, nI_clamp (by omega)]
    unfold oS
    rw [qa, upd_ne (by omega)]
    exact ih
theorem brc_low {W W' : Nat → Int32} (h : ∀ d, d < nd → W d = W' d) {d : Nat} (hd : d < nd) : brc S W d = brc S W' d := by
  unfold brc lev
  rw [h d hd]
theorem bN_low {W W' : Nat → Int32} (h : ∀ d, d < nd → W d = W' d) : bN S nd W = bN S nd W' := sumN_congr nd fun d hd => by rw [brc_low h hd]
theorem sub_in {a b : Int32} (h : -(2 ^ 31) ≤ a.toInt - b.toInt) (h2 : a.toInt - b.toInt < 2 ^ 31) : (a - b).toInt = a.toInt - b.toInt := by
  rw [Int32.toInt_sub, Int.bmod_eq_of_le] <;> omega
theorem brc_nn (V : VLd S nd nw np ns) {W : Nat → Int32} {B : Int} (h : WB W nd B) (hB : B ≤ 1000000000) {d : Nat} (hd : d < nd) : 0 ≤ (brc S W d).toInt := by
  obtain ⟨A, A1, A2, eA⟩ := V.A hd
  obtain ⟨b1, b2, b3, b4, b5, b6⟩ := V.B hd
  have w1 := h.1 d hd
  have w2 := tot_ge nd h.1 d hd
  have w3 := h.2
  obtain ⟨z, hz, ez⟩ : ∃ z : Nat, z < 2 ^ 31 ∧ W d = nI z := nI_of (by rw [Int32.lt_iff_toInt_lt, show (0 : Int32).toInt = 0 by decide]; omega)
  have ezi : (W d).toInt = z := by rw [ez, nI_toInt hz]
  have hdv : z / A ≤ z := Nat.div_le_self _ _
  have el : (lev S W d).toInt = (S 4 d).toInt + ((z / A : Nat) : Int) := by
    unfold lev
    rw [eA, ez, pk_div hz (by omega) (by omega)]
    generalize z / A = q at hdv ⊢
    rw [Int32.toInt_add, nI_toInt (by omega), Int.bmod_eq_of_le] <;> omega
  generalize (z / A : Nat) = q at el hdv
  unfold brc
  split
  · split
    · decide
    · next c1 c2 =>
      rw [Int32.le_iff_toInt_le] at c2
      rw [sub_in (by omega) (by omega)]
      omega
  · next c1 =>
    rw [Int32.le_iff_toInt_le] at c1
    rw [sub_in (by omega) (by omega)]
    omega
theorem nn_l {x : Int32} (h : 0 ≤ x.toInt) : x.toInt64 = lN x.toInt.toNat := by
  have := Int32.toInt_lt x
  refine Int64.toInt_inj.mp ?_
  rw [Int32.toInt_toInt64, pk_lT (by omega)]
  omega
theorem allB_N (V : VLd S nd nw np ns) {W : Nat → Int32} {B : Int} (h : WB W nd B) (hB : B ≤ 1000000000) : allB S nd W = lN (bN S nd W) := by
  have aux : ∀ n, n ≤ nd → sumL (fun d => (brc S W d).toInt64) n = lN (sumN (fun d => (brc S W d).toInt.toNat) n) := by
    intro n
    induction n with
    | zero => intro _; rfl
    | succ n ih =>
      intro hn
      unfold sumL sumN
      rw [ih (by omega), nn_l (brc_nn V h hB (show n < nd by omega)), lN_add]
  exact aux nd (Nat.le_refl _)
theorem bN_lt (V : VLd S nd nw np ns) (W : Nat → Int32) : bN S nd W ≤ 12884901888 := by
  have := sumN_le (f := fun d => (brc S W d).toInt.toNat) (B := 2147483648) nd (fun d _ => by have := Int32.toInt_lt (brc S W d); omega)
  have h6 := V.d6
  refine Nat.le_trans this ?_
  have := Nat.mul_le_mul_right 2147483648 h6
  omega
end low
theorem or_lt {a b : Nat} (ha : a < 16) (hb : b < 16) : a ||| b < 16 := Nat.or_lt_two_pow (n := 4) ha hb
theorem wat_wb {X : PX} (V : VX X) {x w : Nat} (hw : w < xt X) : ∀ k, k ≤ 6 → WB (Wat X x w k) (xd X) (700000000 + 30000 * k)
  | 0, _ => by
    have := V.2.2.2.2.2
    rw [show (700000000 : Int) + 30000 * ((0 : Nat) : Int) = 700000000 by omega]
    exact this
  | k + 1, hk => by
    have ih := wat_wb V (x := x) hw k (by omega)
    obtain ⟨v, hv, ev⟩ := V.2.2.2.2.1 w hw k (by omega)
    unfold Wat
    rw [ev]
    have := wb_mv (r := v) (i := (xh X + k) % 24) (b := oB X x k) V.1 hv (by omega) ih
    rw [show (700000000 : Int) + 30000 * ((k + 1 : Nat) : Int) = 700000000 + 30000 * k + 30000 by push_cast; omega]
    exact this
theorem bH_lt {X : PX} (V : VX X) (x k : Nat) : bH X x k ≤ 38654705664 := by
  have := sumN_le (f := fun w => bN (xS X) (xd X) (Wat X x w (k + 1))) (B := 12884901888) (xt X) (fun w _ => bN_lt V.1 _)
  have ht := V.2.2.2.1.2
  refine Nat.le_trans this ?_
  have := Nat.mul_le_mul_right 12884901888 ht
  omega
theorem bT_lt {X : PX} (V : VX X) (x n : Nat) (hn : n ≤ 6) : bT X x n < 1099511627776 := by
  have := sumN_le (f := bH X x) (B := 38654705664) n (fun k _ => bH_lt V x k)
  refine Nat.lt_of_le_of_lt this ?_
  have := Nat.mul_le_mul_right 38654705664 hn
  omega
theorem pcn_le (b : Nat) : pcn b ≤ 4 := by
  unfold pcn
  split <;> split <;> split <;> split <;> omega
theorem cH_lt {X : PX} (V : VX X) (x k : Nat) : cH X x k ≤ 400 ∧ xS X 31 ((xh X + k) % 24) = nI ((xS X 31 ((xh X + k) % 24)).toInt.toNat) ∧ (xS X 31 ((xh X + k) % 24)).toInt.toNat ≤ 100 := by
  obtain ⟨v, hv, ev⟩ := V.1.pr (show (xh X + k) % 24 < 24 by omega)
  have e : (xS X 31 ((xh X + k) % 24)).toInt.toNat = v := by rw [ev, nI_toInt (by omega)]; omega
  refine ⟨?_, by rw [e, ev], by omega⟩
  unfold cH
  rw [e]
  have := Nat.mul_le_mul hv (pcn_le (dg x k))
  omega
theorem cT_lt {X : PX} (V : VX X) (x n : Nat) (hn : n ≤ 6) : cT X x n ≤ 2400 := by
  have := sumN_le (f := cH X x) (B := 400) n (fun k _ => (cH_lt V x k).1)
  unfold cT
  omega

/-! water stays in its bounds -/
theorem tot_upd (W : Nat → Int32) (a : Nat) (x : Int32) : ∀ n, tot (upd W a x) n = tot W n + (if a < n then x.toInt - (W a).toInt else 0)
  | 0 => by simp [tot]
  | n + 1 => by
    have ih := tot_upd W a x n
    unfold tot
    rw [ih]
    by_cases e : n = a
    · subst e
      rw [upd_at, if_neg (by omega), if_pos (by omega)]
      omega
    · rw [upd_ne e]
      by_cases q : a < n
      · rw [if_pos q, if_pos (by omega)]; omega
      · rw [if_neg q, if_neg (by omega)]; omega
theorem tot_nn {W : Nat → Int32} : ∀ n, (∀ d, d < n → 0 ≤ (W d).toInt) → 0 ≤ tot W n
  | 0, _ => by simp [tot]
  | n + 1, h => by
    have := tot_nn n (fun d hd => h d (by omega))
    have := h n (by omega)
    unfold tot
    omega
theorem tot_ge {W : Nat → Int32} : ∀ n, (∀ d, d < n → 0 ≤ (W d).toInt) → ∀ a, a < n → (W a).toInt ≤ tot W n
  | 0, _, a, ha => by omega
  | n + 1, h, a, ha => by
    have i1 := tot_nn n (fun d hd => h d (by omega))
    have i2 := h n (by omega)
    unfold tot
    by_cases e : a = n
    · subst e; omega
    · have := tot_ge n (fun d hd => h d (by omega)) a (by omega)
      omega
theorem tot_ge2 {W : Nat → Int32} {n a b : Nat} (h : ∀ d, d < n → 0 ≤ (W d).toInt) (ha : a < n) (hb : b < n) (hab : a ≠ b) : (W a).toInt + (W b).toInt ≤ tot W n := by
  have h2 : ∀ d, d < n → 0 ≤ (upd W a 0 d).toInt := fun d hd => by
    by_cases e : d = a
    · subst e; rw [upd_at]; decide
    · rw [upd_ne e]; exact h d hd
  have h3 := tot_ge n h2 b hb
  rw [tot_upd, upd_ne (fun e => hab e.symm), if_pos ha, show (0 : Int32).toInt = 0 by decide] at h3
  omega
theorem sub_i {x v : Int32} (h1 : 0 ≤ v.toInt) (h2 : v.toInt ≤ x.toInt) : (x - v).toInt = x.toInt - v.toInt := by
  have := Int32.toInt_lt x
  rw [Int32.toInt_sub, Int.bmod_eq_of_le] <;> omega
theorem add_i {x v : Int32} (h1 : 0 ≤ x.toInt) (h2 : 0 ≤ v.toInt) (h3 : x.toInt + v.toInt < 2 ^ 31) : (x + v).toInt = x.toInt + v.toInt := by
  rw [Int32.toInt_add, Int.bmod_eq_of_le] <;> omega
theorem wb_out {W : Nat → Int32} {n a : Nat} {B : Int} {v : Int32} (h : WB W n B) (ha : a < n) (h1 : 0 ≤ v.toInt) (h2 : v.toInt ≤ (W a).toInt) : WB (upd W a (W a - v)) n B := by
  have e := sub_i h1 h2
  refine ⟨fun d hd => ?_, ?_⟩
  · by_cases q : d = a
    · subst q; rw [upd_at, e]; omega
    · rw [upd_ne q]; exact h.1 d hd
  · rw [tot_upd, if_pos ha, e]
    have := h.2
    omega
theorem wb_shf {W : Nat → Int32} {n a b : Nat} {B : Int} {v : Int32} (hB : B < 2 ^ 31) (h : WB W n B) (ha : a < n) (hb : b < n) (hab : a ≠ b) (h1 : 0 ≤ v.toInt) (h2 : v.toInt ≤ (W a).toInt) : WB (shf W a b v) n B := by
  have e := sub_i h1 h2
  have g2 := tot_ge2 h.1 ha hb hab
  have hBt := h.2
  have e2 : (W b + v).toInt = (W b).toInt + v.toInt := add_i (h.1 b hb) h1 (by omega)
  unfold shf
  rw [upd_ne (fun q => hab q.symm)]
  refine ⟨fun d hd => ?_, ?_⟩
  · by_cases q : d = b
    · subst q; rw [upd_at, e2]; have := h.1 d hd; omega
    · rw [upd_ne q]
      by_cases q2 : d = a
      · subst q2; rw [upd_at, e]; omega
      · rw [upd_ne q2]; exact h.1 d hd
  · rw [tot_upd, tot_upd, if_pos ha, if_pos hb, upd_ne (fun q => hab q.symm), e, e2]
    omega
theorem toInt32_le {m : Int64} {x : Int32} (h1 : 0 ≤ m.toInt) (h2 : ¬ m ≥ x.toInt64) : 0 ≤ m.toInt32.toInt ∧ m.toInt32.toInt ≤ x.toInt := by
  have h3 : ¬ x.toInt64 ≤ m := h2
  rw [Int64.le_iff_toInt_le, Int32.toInt_toInt64] at h3
  have hx := Int32.toInt_lt x
  have e : m.toInt32.toInt = m.toInt := by
    rw [Int64.toInt_toInt32, Int.bmod_eq_of_le] <;> omega
  rw [e]
  omega
theorem w_pos {A B x : Nat} {hd : Int32} (a1 : 1 ≤ A) (a2 : A ≤ 50) (b2 : B ≤ 50) (b1 : 1 ≤ B) (x1 : 1 ≤ x) (x2 : x ≤ 50) (h : ¬ hd ≤ 0) : 0 ≤ ((nI x).toInt64 * hd.toInt64).toInt ∧ 0 ≤ ((nI A).toInt64 * (nI B).toInt64 * hd.toInt64 / (nI A + nI B).toInt64).toInt := by
  have h0 : 0 < hd.toInt := by
    rw [Int32.le_iff_toInt_le] at h
    have : (0 : Int32).toInt = 0 := by decide
    omega
  have hl := Int32.toInt_lt hd
  have h0' : ¬ hd < 0 := by
    rw [Int32.lt_iff_toInt_lt]
    have : (0 : Int32).toInt = 0 := by decide
    omega
  obtain ⟨z, hz, rfl⟩ : ∃ z : Nat, z < 2 ^ 31 ∧ hd = nI z := nI_of h0'
  have m1 : x * z ≤ 50 * 2 ^ 31 := Nat.mul_le_mul x2 (by omega)
  have m2 : A * B ≤ 50 * 50 := Nat.mul_le_mul a2 b2
  have m3 : A * B * z ≤ 2500 * 2 ^ 31 := Nat.mul_le_mul (by omega) (by omega)
  constructor
  · rw [nI_l (by omega), nI_l hz, lN_mul, pk_lT (by omega)]
    omega
  · rw [nI_add, nI_l (by omega), nI_l (by omega), nI_l hz, nI_l (by omega), lN_mul, lN_mul, pk_lDiv (by omega) (by omega) (by omega)]
    rw [pk_lT (Nat.lt_of_le_of_lt (Nat.div_le_self _ _) (by omega))]
    exact Int.natCast_nonneg _
theorem ite_nn {p q : Int64} {c : Prop} [Decidable c] (h1 : 0 ≤ p.toInt) (h2 : 0 ≤ q.toInt) : 0 ≤ (if c then q else p).toInt := by
  by_cases e : c
  · rw [if_pos e]; exact h2
  · rw [if_neg e]; exact h1
theorem cap_ok {x : Int32} {m : Int64} (h0 : 0 ≤ x.toInt) (h1 : 0 ≤ m.toInt) : 0 ≤ (if m ≥ x.toInt64 then x else m.toInt32).toInt ∧ (if m ≥ x.toInt64 then x else m.toInt32).toInt ≤ x.toInt := by
  by_cases e : m ≥ x.toInt64
  · rw [if_pos e]; exact ⟨h0, Int.le_refl _⟩
  · rw [if_neg e]; exact toInt32_le h1 e
theorem wvm_ok {S : SS} {W : Nat → Int32} {nd nw np ns a b k : Nat} (V : VLd S nd nw np ns) (hk : k < nw) (ha : a < nd) (hb : b < nd) (h0 : 0 ≤ (W a).toInt) : 0 ≤ (wvm S W a b k).toInt ∧ (wvm S W a b k).toInt ≤ (W a).toInt := by
  obtain ⟨A, A1, A2, eA⟩ := V.A ha
  obtain ⟨B, B1, B2, eB⟩ := V.A hb
  obtain ⟨_, _, x, -, -, -, x1, x2, -, -, ex⟩ := V.w hk
  unfold wvm
  rw [eA, eB, ex]
  generalize lev S W a - (if S 13 k ≤ lev S W b then lev S W b else S 13 k) = hd
  by_cases c : hd ≤ 0
  · rw [if_pos c, show (0 : Int32).toInt = 0 by decide]; omega
  · rw [if_neg c]
    obtain ⟨p1, p2⟩ := w_pos A1 A2 B2 B1 x1 x2 c
    exact cap_ok h0 (ite_nn p1 p2)
theorem svm_ok {S : SS} {W : Nat → Int32} {nd nw np ns i k : Nat} (V : VLd S nd nw np ns) (hk : k < ns) (h0 : 0 ≤ (W (sA S k)).toInt) : 0 ≤ (svm S W i k).toInt ∧ (svm S W i k).toInt ≤ (W (sA S k)).toInt := by
  obtain ⟨-, x, x1, x2, ex⟩ := V.s hk
  unfold svm
  rw [ex]
  generalize lev S W (sA S k) - S 30 i = hd
  split
  · rw [show (0 : Int32).toInt = 0 by decide]; omega
  · split
    · next q =>
      have hz : ¬ hd ≤ 0 := by
        rw [Int32.le_iff_toInt_le]; rw [Int32.lt_iff_toInt_lt] at q; omega
      exact cap_ok h0 (w_pos (A := 1) (B := 1) (by omega) (by omega) (by omega) (by omega) x1 x2 hz).1
    · rw [show (0 : Int32).toInt = 0 by decide]; omega
theorem pvm_ok {S : SS} {W : Nat → Int32} {nd nw np ns b k : Nat} (V : VLd S nd nw np ns) (hk : k < np) (h0 : 0 ≤ (W (pA S k)).toInt) : 0 ≤ (pvm S W b k).toInt ∧ (pvm S W b k).toInt ≤ (W (pA S k)).toInt := by
  obtain ⟨x, x1, x2, ex⟩ := V.r hk
  unfold pvm
  rw [ex]
  split
  · split
    · omega
    · next q =>
      rw [Int32.lt_iff_toInt_lt, nI_toInt (by omega)] at q
      rw [nI_toInt (by omega)]
      omega
  · rw [show (0 : Int32).toInt = 0 by decide]; omega
theorem wb_wW {S : SS} {W : Nat → Int32} {nd nw np ns : Nat} {B : Int} (V : VLd S nd nw np ns) (hB : B < 2 ^ 31) (h : WB W nd B) : ∀ k, k ≤ nw → WB (wW S W k) nd B
  | 0, _ => h
  | k + 1, hk => by
    have ih := wb_wW V hB h k (by omega)
    have h6 := V.d6
    obtain ⟨a, b, x, ha, hb, hab, x1, x2, ea, eb, ex⟩ := V.w (show k < nw by omega)
    have qa : wA S k = a := by unfold wA; rw [ea, nI_clamp (by omega)]
    have qb : wB S k = b := by unfold wB; rw [eb, nI_clamp (by omega)]
    unfold wW
    rw [qa, qb]
    have := wvm_ok (W := wW S W k) V (show k < nw by omega) ha hb (ih.1 a ha)
    exact wb_shf hB ih ha hb hab this.1 this.2
theorem wb_pW {S : SS} {W : Nat → Int32} {nd nw np ns b : Nat} {B : Int} (V : VLd S nd nw np ns) (hB : B < 2 ^ 31) (h : WB W nd B) : ∀ k, k ≤ np → WB (pW S b W k) nd B
  | 0, _ => h
  | k + 1, hk => by
    have ih := wb_pW (b := b) V hB h k (by omega)
    have h6 := V.d6
    obtain ⟨a, ha, ea, et⟩ := V.p (show k < np by omega)
    have qa : pA S k = a := by unfold pA; rw [ea, nI_clamp (by omega)]
    unfold pW
    have h9 := pvm_ok (W := pW S b W k) (b := b) V (show k < np by omega) (by rw [qa]; exact ih.1 a ha)
    unfold pst
    rw [qa] at h9 ⊢
    split
    · exact wb_out ih ha h9.1 h9.2
    · next q =>
      rcases et with et | ⟨t, ht, hat, et⟩
      · exact absurd et q
      · rw [et, nI_clamp (by omega)]
        exact wb_shf hB ih ha ht hat h9.1 h9.2
theorem wb_sW {S : SS} {W : Nat → Int32} {nd nw np ns i : Nat} {B : Int} (V : VLd S nd nw np ns) (h : WB W nd B) : ∀ k, k ≤ ns → WB (sW S i W k) nd B
  | 0, _ => h
  | k + 1, hk => by
    have ih := wb_sW (i := i) V h k (by omega)
    have h6 := V.d6
    obtain ⟨⟨a, ha, ea⟩, -⟩ := V.s (show k < ns by omega)
    have qa : sA S k = a := by unfold sA; rw [ea, nI_clamp (by omega)]
    unfold sW
    have h9 := svm_ok (W := sW S i W k) (i := i) V (show k < ns by omega) (by rw [qa]; exact ih.1 a ha)
    unfold sst
    rw [qa] at h9 ⊢
    exact wb_out ih ha h9.1 h9.2
theorem rain_i {r A : Nat} {x : Int32} {B : Int} (hr : r ≤ 100) (hA : A ≤ 50) (h0 : 0 ≤ x.toInt) (h1 : x.toInt ≤ B) (hB : B + 5000 < 2 ^ 31) : (x + nI r * nI A).toInt = x.toInt + r * A := by
  have m : r * A ≤ 100 * 50 := Nat.mul_le_mul hr hA
  rw [pk_mul, add_i h0 (by rw [nI_toInt (by omega)]; omega) (by rw [nI_toInt (by omega)]; omega), nI_toInt (by omega)]
  push_cast
  rfl
theorem tot_pre {f g : Nat → Int32} {c : Int} : ∀ n, (∀ d, d < n → (f d).toInt ≤ (g d).toInt + c) → tot (pre n f g) n ≤ tot g n + n * c := by
  intro n h
  have aux : ∀ k, k ≤ n → tot (pre n f g) k ≤ tot g k + k * c := by
    intro k
    induction k with
    | zero => intro _; simp [tot]
    | succ k ih =>
      intro hk
      have i1 := ih (by omega)
      have i2 := h k (by omega)
      unfold tot
      rw [show pre n f g k = f k by unfold pre; rw [if_pos (by omega)]]
      push_cast
      rw [Int.add_mul]
      omega
  exact aux n (Nat.le_refl _)
theorem wb_mv {S : SS} {W : Nat → Int32} {nd nw np ns r i b : Nat} {B : Int} (V : VLd S nd nw np ns) (hr : r ≤ 100) (hB : B + 30000 < 2 ^ 31) (h : WB W nd B) : WB (mvS S nd nw np ns (nI r) i b W) nd (B + 30000) := by
  have h6 := V.d6
  have h1 : WB (mvR S nd (nI r) W) nd (B + 30000) := by
    have key : ∀ d, d < nd → (rnW S (nI r) W d).toInt ≤ (W d).toInt + 5000 ∧ 0 ≤ (rnW S (nI r) W d).toInt := fun d hd => by
      obtain ⟨A, A1, A2, eA⟩ := V.A hd
      have g1 := tot_ge nd h.1 d hd
      have g2 := h.2
      have m : r * A ≤ 100 * 50 := Nat.mul_le_mul hr A2
      unfold rnW
      rw [eA, rain_i hr A2 (h.1 d hd) (B := B) (by omega) (by omega)]
      have g3 := h.1 d hd
      have m2 : ((r * A : Nat) : Int) = (r : Int) * A := by push_cast; rfl
      omega
    refine ⟨fun d hd => ?_, ?_⟩
    · unfold mvR pre
      rw [if_pos hd]
      exact (key d hd).2
    · unfold mvR
      have := tot_pre (f := rnW S (nI r) W) (g := W) (c := 5000) nd (fun d hd => (key d hd).1)
      have g2 := h.2
      omega
  exact wb_sW V (wb_pW V hB (wb_wW V hB h1 nw (Nat.le_refl _)) np (Nat.le_refl _)) ns (Nat.le_refl _)

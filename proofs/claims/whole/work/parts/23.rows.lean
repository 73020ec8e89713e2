/-! rows of the memory -/
theorem ui_row (M : MM) (w j : Nat) (v : Int32) : ui M w j v = uc M w (upd (M.1 w) j v) := by
  unfold ui uc
  congr 1
  funext a b
  by_cases h : a = w
  · subst h; simp [upd]
  · simp [h]
theorem uc_uc (M : MM) (w : Nat) (f g : Nat → Int32) : uc (uc M w f) w g = uc M w g := by
  unfold uc
  congr 1
  funext a b
  by_cases h : a = w <;> simp [h]
theorem uc_comm (M : MM) {a b : Nat} (h : a ≠ b) (f g : Nat → Int32) : uc (uc M a f) b g = uc (uc M b g) a f := by
  unfold uc
  congr 1
  funext x y
  by_cases h1 : x = a
  · subst h1; simp [h]
  · simp [h1]
theorem uc_self (M : MM) (w : Nat) : uc M w (M.1 w) = M := by
  obtain ⟨m, l⟩ := M
  unfold uc
  congr 1
  funext a b
  by_cases h : a = w
  · subst h; simp
  · simp [h]
theorem uc_at (M : MM) (w : Nat) (f : Nat → Int32) : (uc M w f).1 w = f := by funext b; simp [uc]
theorem uc_ne {M : MM} {w k : Nat} {f : Nat → Int32} (h : k ≠ w) : (uc M w f).1 k = M.1 k := by funext b; simp [uc, h]
theorem uc_2 (M : MM) (w : Nat) (f : Nat → Int32) : (uc M w f).2 = M.2 := rfl
theorem upd_0 (f : Nat → Int32) (a : Nat) : upd f a (f a - 0) = f := by
  funext j
  by_cases h : j = a
  · subst h; simp [upd]
  · simp [upd, h]
theorem upd_p0 (f : Nat → Int32) (a : Nat) : upd f a (f a + 0) = f := by
  funext j
  by_cases h : j = a
  · subst h; simp [upd]
  · simp [upd, h]
theorem upd_at (f : Nat → Int32) (a : Nat) (x : Int32) : upd f a x a = x := by simp [upd]
theorem upd_ne {f : Nat → Int32} {a j : Nat} {x : Int32} (h : j ≠ a) : upd f a x j = f j := by simp [upd, h]
/-- the first k places of a row anew -/
def pre (k : Nat) (f g : Nat → Int32) : Nat → Int32 := fun j => if j < k then f j else g j
theorem pre_0 (f g : Nat → Int32) : pre 0 f g = g := by funext j; simp [pre]
theorem pre_s (k : Nat) (f g : Nat → Int32) : upd (pre k f g) k (f k) = pre (k + 1) f g := by
  funext j
  by_cases h : j = k
  · subst h; simp [upd, pre]
  · by_cases h2 : j < k
    · simp [upd, pre, h, h2, show j < k + 1 by omega]
    · simp [upd, pre, h, h2, show ¬ j < k + 1 by omega]
theorem bit_nI : ∀ b, b < 16 → ∀ k, k < 4 → ((nI b >>> (nI k &&& 31)) &&& 1) = (if b.testBit k then 1 else 0) := by decide +kernel
theorem bit_or : ∀ b, b < 16 → ∀ k, k < 4 → (nI b ||| (1 <<< (nI k &&& 31))) = nI (b ||| 2 ^ k) := by decide +kernel
theorem bit_off : ∀ b, b < 16 → ∀ k, k < 4 → (nI b &&& ((1 <<< (nI k &&& 31)) ^^^ (-1))) = nI (b &&& (15 - 2 ^ k)) := by decide +kernel
theorem and1 (x : Int32) : x &&& 1 = 0 ∨ x &&& 1 = 1 := by
  obtain ⟨j, hj, e⟩ := pk_andE x (m := 1) 1 (by decide)
  rcases (show j = 0 ∨ j = 1 by omega) with rfl | rfl
  · exact Or.inl e
  · exact Or.inr e
/-- is pump p in a pause at hour h -/
def pz (S : SS) (p h : Nat) : Bool := decide (((S 20 p >>> (nI (h % 24) &&& 31)) &&& 1) = 1)
theorem fn_pausesAt {M : MM} {p h : Nat} (hp : p < 4) (hh : h < 2 ^ 31) : Fn 3 mX4_pausesAt [.ref 15, .int (nI p), .int (nI h)] M (some (.int (if pz M.1 p h then 1 else 0))) M := fn_intro ok_X4_pausesAt (Nat.le_of_ble_eq_true rfl) fun G g gr => by
  refine b_X4_pausesAt_0 g gr (by decide) _ _ M ⟨vp_in_nI hp (by omega), _, _, fn_hourOfDay hh M, ite_01, ?_⟩
  rw [nI_clamp (by omega)]
  unfold pz
  rcases and1 (M.1 20 p >>> (nI (h % 24) &&& 31)) with e | e <;> rw [e] <;> exact ⟨rfl, rfl⟩
theorem rem24 {h : Nat} (hh : h < 2 ^ 31) : nI h - nI h / 24 * 24 = nI (h % 24) := pk_rem (a := h) (d := 24) hh (by omega) (by omega)
theorem fn_isPaused {M : MM} {p h : Nat} (hp : p < 4) (hh : h < 2 ^ 31) : Fn 1 mX10_isPaused [.ref 72, .int (nI p), .int (nI h)] M (some (.int (if pz (mS M) p h then 1 else 0))) M := fn_intro ok_X10_isPaused (Nat.le_of_ble_eq_true rfl) fun G g gr => by
  refine b_X10_isPaused_0 g gr (by decide) _ _ M ⟨vp_in_nI hp (by omega), by decide, ite_10, ?_⟩
  rw [nI_clamp (by omega), rem24 hh]
  unfold pz
  show some (Value.int (if decide (((M.1 88 p >>> (nI (h % 24) &&& 31)) &&& 1) = 1) = true then 1 else 0)) = _ ∧ _
  by_cases c : ((M.1 88 p >>> (nI (h % 24) &&& 31)) &&& 1) = 1
  · simp [c]
  · simp [c]
theorem pz_congr {S S' : SS} (h : ∀ k ∈ rowL, S k = S' k) (p x : Nat) : pz S p x = pz S' p x := by
  unfold pz
  rw [h 20 (by decide)]
theorem fn_isOn {M : MM} {p b : Nat} (hp : p < 4) (hb : b < 16) (ho : M.1 15 6 = nI b) : Fn 1 mX4_isOn [.ref 15, .int (nI p)] M (some (.int (if b.testBit p then 1 else 0))) M := fn_intro ok_X4_isOn (Nat.le_of_ble_eq_true rfl) fun G g gr => by
  refine b_X4_isOn_0 g gr (by decide) _ M ⟨ite_01, ?_⟩
  rw [ho, bit_nI b hb p hp]
  cases b.testBit p <;> exact ⟨rfl, rfl⟩
theorem fn_inPlans {M : MM} {np : Nat} (hn : np ≤ 4) (hs : M.1 15 7 = nI np) : Fn 2 mX4_inPlans [.ref 15] M (some (.int (nI (min np 2)))) M := fn_intro ok_X4_inPlans (Nat.le_of_ble_eq_true rfl) fun G g gr => by
  refine b_X4_inPlans_0 g gr (by decide) M ⟨_, _, fn_mini _ _ M, ?_⟩
  rw [hs]
  rcases (show np = 0 ∨ np = 1 ∨ np = 2 ∨ np = 3 ∨ np = 4 by omega) with rfl | rfl | rfl | rfl | rfl <;> exact ⟨rfl, rfl⟩
theorem fn_tried {M : MM} {nw : Nat} (hn : nw ≤ 3) (hs : M.1 32 1 = nI nw) : Fn 2 mX8_tried [.ref 32] M (some (.int (nI (max nw 1)))) M := fn_intro ok_X8_tried (Nat.le_of_ble_eq_true rfl) fun G g gr => by
  refine b_X8_tried_0 g gr (by decide) M ⟨_, _, fn_maxi _ _ M, ?_⟩
  rw [hs]
  rcases (show nw = 0 ∨ nw = 1 ∨ nw = 2 ∨ nw = 3 by omega) with rfl | rfl | rfl | rfl <;> exact ⟨rfl, rfl⟩
/-- the bits without those that pause -/
def awk (S : SS) (h : Nat) (b : Nat) : Nat → Nat
  | 0 => b
  | k + 1 => if pz S k h then awk S h b k &&& (15 - 2 ^ k) else awk S h b k
theorem awk_lt (S : SS) (h : Nat) {b : Nat} (hb : b < 16) : ∀ k, k ≤ 4 → awk S h b k < 16
  | 0, _ => hb
  | k + 1, hk => by
    have ih := awk_lt S h hb k (by omega)
    unfold awk
    split
    · exact Nat.lt_of_le_of_lt (Nat.and_le_left) ih
    · exact ih
theorem fn_awake {M : MM} {b h np : Nat} (hn : np ≤ 4) (hs : M.1 15 7 = nI np) (hb : b < 16) (hh : h < 2 ^ 31) : Fn 4 mX4_awake [.ref 15, .int (nI b), .int (nI h)] M (some (.int (nI (awk M.1 h b np)))) M := fn_intro ok_X4_awake (Nat.le_of_ble_eq_true rfl) fun G g gr => by
  refine b_X4_awake_0 g gr (by decide) _ _ M ?_
  have loop : ∀ k j : Nat, j + k = np → At_X4_awake_5 G (nI b) (nI h) (nI (awk M.1 h b j)) (nI j) M := by
    intro k
    induction k with
    | zero =>
      intro j hj
      refine b_X4_awake_5 g gr (by decide) _ _ _ _ M ⟨fun _ => ⟨by rw [show j = np by omega], rfl⟩, fun c => ?_⟩
      exact absurd (by rw [hs]; exact nI_le (by omega) (by omega)) c
    | succ k ih =>
      intro j hj
      refine b_X4_awake_5 g gr (by decide) _ _ _ _ M ⟨fun c => ?_, fun _ => ⟨_, _, fn_pausesAt (show j < 4 by omega) hh, ?_⟩⟩
      · rw [hs, nI_leI (by omega) (by omega)] at c; omega
      · refine ⟨fun c x e => ?_, fun c x e x2 e2 => ?_⟩
        · have := ih (j + 1) (by omega)
          unfold awk at this
          cases hz : pz M.1 j h with
          | true => rw [hz] at c; exact absurd c (by decide)
          | false => rw [hz] at this; rw [e, nI_1]; exact this
        · have := ih (j + 1) (by omega)
          unfold awk at this
          cases hz : pz M.1 j h with
          | false => rw [hz] at c; exact absurd rfl c
          | true => rw [hz] at this; rw [e, e2, nI_1, bit_off _ (awk_lt M.1 h hb j (by omega)) _ (by omega)]; exact this
  exact loop np 0 (by omega)
theorem awk_congr {S S' : SS} (h : ∀ k ∈ rowL, S k = S' k) (x b : Nat) : ∀ k, awk S x b k = awk S' x b k
  | 0 => rfl
  | k + 1 => by unfold awk; rw [awk_congr h x b k, pz_congr h]
theorem and_bit : ∀ b, b < 16 → ∀ k, k < 4 → ∀ p, p < 4 → (b &&& (15 - 2 ^ k)).testBit p = (b.testBit p && !(p == k)) := by decide +kernel
theorem awk_bit (S : SS) (h : Nat) {b : Nat} (hb : b < 16) : ∀ k, k ≤ 4 → ∀ p, p < 4 → (awk S h b k).testBit p = (b.testBit p && !(decide (p < k) && pz S p h))
  | 0, _, p, hp => by simp [awk]
  | k + 1, hk, p, hp => by
    have ih := awk_bit S h hb k (by omega) p hp
    unfold awk
    by_cases e : p = k
    · subst e
      cases hz : pz S p h with
      | true =>
        rw [if_pos rfl, and_bit _ (awk_lt S h hb p (by omega)) p (by omega) p hp]
        simp
      | false =>
        rw [if_neg (by simp), ih]
        simp
    · have e2 : decide (p < k + 1) = decide (p < k) := by
        by_cases q : p < k
        · simp [q, show p < k + 1 by omega]
        · simp [q, show ¬ p < k + 1 by omega]
      rw [e2]
      split
      · rw [and_bit _ (awk_lt S h hb k (by omega)) k (by omega) p hp, ih]
        simp [e]
      · exact ih

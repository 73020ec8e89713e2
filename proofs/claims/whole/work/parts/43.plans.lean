/-! plans: pure -/
def dg (x k : Nat) : Nat := x / 4 ^ k % 4
def tl (x k p : Nat) : Bool := (dg x k).testBit p
theorem dg_lt (x k : Nat) : dg x k < 4 := Nat.mod_lt _ (by omega)
theorem bits_of {x k : Nat} (hx : x < 4096) (hk : k < 6) : ((nI x >>> ((2 * nI k) &&& 31)) &&& 3) = nI (dg x k) := by
  unfold dg
  rcases (show k = 0 ∨ k = 1 ∨ k = 2 ∨ k = 3 ∨ k = 4 ∨ k = 5 by omega) with rfl | rfl | rfl | rfl | rfl | rfl
  · rw [pk_shrN (by omega) _ 0 (by decide), pk_andN (by omega) 2 (by decide)]
  · rw [pk_shrN (by omega) _ 2 (by decide), pk_andN (by omega) 2 (by decide)]
  · rw [pk_shrN (by omega) _ 4 (by decide), pk_andN (by omega) 2 (by decide)]
  · rw [pk_shrN (by omega) _ 6 (by decide), pk_andN (by omega) 2 (by decide)]
  · rw [pk_shrN (by omega) _ 8 (by decide), pk_andN (by omega) 2 (by decide)]
  · rw [pk_shrN (by omega) _ 10 (by decide), pk_andN (by omega) 2 (by decide)]
theorem tl_mod {x k p s : Nat} (h : x / 4 ^ k % 4 / 2 ^ p % 2 = x / 2 ^ s % 2) : nI (x / 2 ^ s % 2 ^ 1) = (if tl x k p then (1 : Int32) else 0) := by
  have e : tl x k p = decide (x / 2 ^ s % 2 = 1) := by
    unfold tl dg
    rw [Nat.testBit_eq_decide_div_mod_eq, h]
  rw [e, Nat.pow_one]
  rcases (show x / 2 ^ s % 2 = 0 ∨ x / 2 ^ s % 2 = 1 by omega) with q | q
  · rw [q]; rfl
  · rw [q]; rfl
theorem bit_of {x k p : Nat} (hx : x < 4096) (hk : k < 6) (hp : p < 2) : ((nI x >>> ((2 * nI k + nI p) &&& 31)) &&& 1) = (if tl x k p then (1 : Int32) else 0) := by
  rcases (show p = 0 ∨ p = 1 by omega) with rfl | rfl
  · rcases (show k = 0 ∨ k = 1 ∨ k = 2 ∨ k = 3 ∨ k = 4 ∨ k = 5 by omega) with rfl | rfl | rfl | rfl | rfl | rfl
    · rw [pk_shrN (by omega) _ 0 (by decide), pk_andN (by omega) 1 (by decide)]; exact tl_mod (by omega)
    · rw [pk_shrN (by omega) _ 2 (by decide), pk_andN (by omega) 1 (by decide)]; exact tl_mod (by omega)
    · rw [pk_shrN (by omega) _ 4 (by decide), pk_andN (by omega) 1 (by decide)]; exact tl_mod (by omega)
    · rw [pk_shrN (by omega) _ 6 (by decide), pk_andN (by omega) 1 (by decide)]; exact tl_mod (by omega)
    · rw [pk_shrN (by omega) _ 8 (by decide), pk_andN (by omega) 1 (by decide)]; exact tl_mod (by omega)
    · rw [pk_shrN (by omega) _ 10 (by decide), pk_andN (by omega) 1 (by decide)]; exact tl_mod (by omega)
  · rcases (show k = 0 ∨ k = 1 ∨ k = 2 ∨ k = 3 ∨ k = 4 ∨ k = 5 by omega) with rfl | rfl | rfl | rfl | rfl | rfl
    · rw [pk_shrN (by omega) _ 1 (by decide), pk_andN (by omega) 1 (by decide)]; exact tl_mod (by omega)
    · rw [pk_shrN (by omega) _ 3 (by decide), pk_andN (by omega) 1 (by decide)]; exact tl_mod (by omega)
    · rw [pk_shrN (by omega) _ 5 (by decide), pk_andN (by omega) 1 (by decide)]; exact tl_mod (by omega)
    · rw [pk_shrN (by omega) _ 7 (by decide), pk_andN (by omega) 1 (by decide)]; exact tl_mod (by omega)
    · rw [pk_shrN (by omega) _ 9 (by decide), pk_andN (by omega) 1 (by decide)]; exact tl_mod (by omega)
    · rw [pk_shrN (by omega) _ 11 (by decide), pk_andN (by omega) 1 (by decide)]; exact tl_mod (by omega)
theorem ext_of {x k c : Nat} (hx : x < 4 ^ k) (hk : k < 6) (hc : c < 4) : (nI x ||| (nI c <<< ((2 * nI k) &&& 31))) = nI (x + c * 4 ^ k) := by
  have h : nI c <<< ((2 * nI k) &&& 31) = nI (c * 4 ^ k) := by
    rcases (show k = 0 ∨ k = 1 ∨ k = 2 ∨ k = 3 ∨ k = 4 ∨ k = 5 by omega) with rfl | rfl | rfl | rfl | rfl | rfl
    · rw [pk_shlN _ 0 (by decide) (by omega)]
    · rw [pk_shlN _ 2 (by decide) (by omega)]
    · rw [pk_shlN _ 4 (by decide) (by omega)]
    · rw [pk_shlN _ 6 (by decide) (by omega)]
    · rw [pk_shlN _ 8 (by decide) (by omega)]
    · rw [pk_shlN _ 10 (by decide) (by omega)]
  have e4 : (4 : Nat) ^ k = 2 ^ (2 * k) := by rw [Nat.pow_mul]
  have e : x + c * 4 ^ k = x ||| c * 4 ^ k := by
    rw [e4] at hx ⊢
    have := Nat.two_pow_add_eq_or_of_lt hx c
    rw [Nat.mul_comm c, Nat.add_comm, this, Nat.or_comm]
  rw [h, e]
  refine Int32.toBitVec_inj.1 ?_
  show BitVec.ofNat 32 x ||| BitVec.ofNat 32 (c * 4 ^ k) = BitVec.ofNat 32 (x ||| c * 4 ^ k)
  rw [BitVec.ofNat_or]
theorem dg_ext {x k c : Nat} (hx : x < 4 ^ k) (hc : c < 4) : dg (x + c * 4 ^ k) k = c := by
  unfold dg
  rw [Nat.add_mul_div_right _ _ (Nat.pow_pos (by omega)), Nat.div_eq_of_lt hx]
  omega
theorem dg_low {x k c j : Nat} (hj : j < k) : dg (x + c * 4 ^ k) j = dg x j := by
  unfold dg
  obtain ⟨m, rfl⟩ : ∃ m, k = j + 1 + m := ⟨k - (j + 1), by omega⟩
  rw [show c * 4 ^ (j + 1 + m) = (4 * (c * 4 ^ m)) * 4 ^ j by rw [Nat.pow_add, Nat.pow_add, Nat.pow_one]; simp [Nat.mul_assoc, Nat.mul_comm, Nat.mul_left_comm], Nat.add_mul_div_right _ _ (Nat.pow_pos (by omega))]
  omega
theorem dg_mod {y k j : Nat} (hj : j < k) : dg (y % 4 ^ k) j = dg y j := by
  have := dg_low (x := y % 4 ^ k) (k := k) (c := y / 4 ^ k) hj
  rw [Nat.mul_comm, Nat.mod_add_div] at this
  exact this.symm
theorem mod_s (y k : Nat) : y % 4 ^ (k + 1) = y % 4 ^ k + dg y k * 4 ^ k := by
  unfold dg
  rw [Nat.mod_pow_succ, Nat.mul_comm]
def sumN (f : Nat → Nat) : Nat → Nat
  | 0 => 0
  | k + 1 => sumN f k + f k
theorem sumN_congr {f g : Nat → Nat} : ∀ n, (∀ k, k < n → f k = g k) → sumN f n = sumN g n
  | 0, _ => rfl
  | n + 1, h => by
    unfold sumN
    rw [sumN_congr n (fun k hk => h k (by omega)), h n (by omega)]
theorem sumN_le {f : Nat → Nat} {B : Nat} : ∀ n, (∀ k, k < n → f k ≤ B) → sumN f n ≤ n * B
  | 0, _ => by simp [sumN]
  | n + 1, h => by
    have := sumN_le n (fun k hk => h k (by omega))
    have := h n (by omega)
    unfold sumN
    rw [Nat.add_mul]
    omega
theorem sumN_mono {f : Nat → Nat} {a : Nat} : ∀ b, a ≤ b → sumN f a ≤ sumN f b
  | 0, h => by rw [show a = 0 by omega]; exact Nat.le_refl _
  | b + 1, h => by
    by_cases e : a = b + 1
    · subst e; exact Nat.le_refl _
    · have := sumN_mono (f := f) b (show a ≤ b by omega)
      show sumN f a ≤ sumN f b + f b
      omega
theorem sumN_add (f g : Nat → Nat) : ∀ n, sumN (fun k => f k + g k) n = sumN f n + sumN g n
  | 0 => rfl
  | n + 1 => by
    unfold sumN
    rw [sumN_add f g n]
    omega
theorem sumN_swap (f : Nat → Nat → Nat) (m : Nat) : ∀ n, sumN (fun k => sumN (fun w => f k w) m) n = sumN (fun w => sumN (fun k => f k w) n) m
  | 0 => by
    have : ∀ m, sumN (fun _ => 0) m = 0 := fun m => by
      induction m with
      | zero => rfl
      | succ m ih => unfold sumN; rw [ih]
    exact (this m).symm
  | n + 1 => by
    rw [show sumN (fun k => sumN (fun w => f k w) m) (n + 1) = sumN (fun k => sumN (fun w => f k w) m) n + sumN (fun w => f n w) m from rfl, sumN_swap f m n, ← sumN_add]
    rfl
/-- rows, sizes, hour and bits and worlds tried, rain, water -/
abbrev PX : Type := SS × (Nat × Nat × Nat × Nat) × (Nat × Nat × Nat) × (Nat → Nat → Int32) × (Nat → Int32)
def xS (X : PX) : SS := X.1
def xd (X : PX) : Nat := X.2.1.1
def xw (X : PX) : Nat := X.2.1.2.1
def xp (X : PX) : Nat := X.2.1.2.2.1
def xs (X : PX) : Nat := X.2.1.2.2.2
def xh (X : PX) : Nat := X.2.2.1.1
def xb (X : PX) : Nat := X.2.2.1.2.1
def xt (X : PX) : Nat := X.2.2.1.2.2
def xR (X : PX) : Nat → Nat → Int32 := X.2.2.2.1
def xW (X : PX) : Nat → Int32 := X.2.2.2.2
def VX (X : PX) : Prop := VLd (xS X) (xd X) (xw X) (xp X) (xs X) ∧ xb X < 2 ^ xp X ∧ xh X ≤ 20000 ∧ (1 ≤ xt X ∧ xt X ≤ 3) ∧ (∀ w, w < xt X → ∀ k, k < 6 → ∃ v : Nat, v ≤ 100 ∧ xR X w k = nI v) ∧ WB (xW X) (xd X) 700000000
/-- the pumps that are on in hour k of plan x -/
def oB (X : PX) (x k : Nat) : Nat := dg x k ||| awk (xS X) (xh X + k) (xb X / 4 * 4) (xp X)
def Wat (X : PX) (x w : Nat) : Nat → (Nat → Int32)
  | 0 => xW X
  | k + 1 => mvS (xS X) (xd X) (xw X) (xp X) (xs X) (xR X w k) ((xh X + k) % 24) (oB X x k) (Wat X x w k)
def bN (S : SS) (nd : Nat) (W : Nat → Int32) : Nat := sumN (fun d => (brc S W d).toInt.toNat) nd
def bH (X : PX) (x k : Nat) : Nat := sumN (fun w => bN (xS X) (xd X) (Wat X x w (k + 1))) (xt X)
def bT (X : PX) (x n : Nat) : Nat := sumN (bH X x) n
def cH (X : PX) (x k : Nat) : Nat := (xS X 31 ((xh X + k) % 24)).toInt.toNat * pcn (dg x k)
def cT (X : PX) (x n : Nat) : Nat := sumN (cH X x) n
def run (x p : Nat) : Nat → Nat
  | 0 => 0
  | k + 1 => if tl x k p then run x p k + 1 else 0
def mayE (X : PX) (k x p : Nat) : Bool := run x p k == 0 || decide (xS X 19 p ≤ nI (run x p k)) || (run x p k == k && (xb X).testBit p)
def fitP (X : PX) (k x p : Nat) : Bool := if tl x k p then !pz (xS X) p (xh X + k) else mayE X k x p
def fit (X : PX) (k x : Nat) : Prop := ∀ p, p < min (xp X) 2 → fitP X k x p = true
def Wel (X : PX) (n x : Nat) : Prop := ∀ k, k < n → fit X k x
def isP (X : PX) (n x : Nat) : Prop := ∀ k, k < n → dg x k < 2 ^ min (xp X) 2
section sm
variable {X : PX} {x y : Nat}
theorem oB_sm {k : Nat} (h : dg x k = dg y k) : oB X x k = oB X y k := by unfold oB; rw [h]
theorem Wat_sm {w : Nat} : ∀ k, (∀ j, j < k → dg x j = dg y j) → Wat X x w k = Wat X y w k
  | 0, _ => rfl
  | k + 1, h => by
    unfold Wat
    rw [Wat_sm k (fun j hj => h j (by omega)), oB_sm (h k (by omega))]
theorem bH_sm {k : Nat} (h : ∀ j, j < k + 1 → dg x j = dg y j) : bH X x k = bH X y k := by
  unfold bH
  exact sumN_congr _ fun w _ => by rw [Wat_sm _ h]
theorem bT_sm {n : Nat} (h : ∀ j, j < n → dg x j = dg y j) : bT X x n = bT X y n := sumN_congr n fun k hk => bH_sm fun j hj => h j (by omega)
theorem cH_sm {k : Nat} (h : dg x k = dg y k) : cH X x k = cH X y k := by unfold cH; rw [h]
theorem cT_sm {n : Nat} (h : ∀ j, j < n → dg x j = dg y j) : cT X x n = cT X y n := sumN_congr n fun k hk => cH_sm (h k hk)
theorem tl_sm {k p : Nat} (h : dg x k = dg y k) : tl x k p = tl y k p := by unfold tl; rw [h]
theorem run_sm {p : Nat} : ∀ k, (∀ j, j < k → dg x j = dg y j) → run x p k = run y p k
  | 0, _ => rfl
  | k + 1, h => by
    unfold run
    rw [run_sm k (fun j hj => h j (by omega)), tl_sm (h k (by omega))]
theorem fit_sm {k : Nat} (h : ∀ j, j < k + 1 → dg x j = dg y j) : fit X k x ↔ fit X k y := by
  unfold fit fitP mayE
  constructor
  · intro q p hp
    have := q p hp
    rw [tl_sm (h k (by omega)), run_sm k (fun j hj => h j (by omega))] at this
    exact this
  · intro q p hp
    have := q p hp
    rw [← tl_sm (h k (by omega)), ← run_sm k (fun j hj => h j (by omega))] at this
    exact this
end sm
theorem run_le (x p : Nat) : ∀ k, run x p k ≤ k
  | 0 => Nat.le_refl _
  | k + 1 => by
    have := run_le x p k
    unfold run
    split <;> omega
/-- keys: breach, cost, number -/
abbrev KY : Type := Nat × Nat × Nat
def kl (a b : KY) : Prop := a.1 < b.1 ∨ (a.1 = b.1 ∧ (a.2.1 < b.2.1 ∨ (a.2.1 = b.2.1 ∧ a.2.2 < b.2.2)))
def key (X : PX) (n y : Nat) : KY := (bT X y n, cT X y n, y)
theorem kl_tr {a b c : KY} (h1 : kl a b) (h2 : kl b c) : kl a c := by unfold kl at *; omega
theorem kl_ir (a : KY) : ¬ kl a a := by unfold kl; omega
theorem kl_tot {a b : KY} (h1 : ¬ kl a b) (h2 : ¬ kl b a) : a = b := by
  unfold kl at *
  obtain ⟨a1, a2, a3⟩ := a
  obtain ⟨b1, b2, b3⟩ := b
  simp only [Prod.mk.injEq]
  simp only at h1 h2
  omega
/-- what is not below stays not below as all grow -/
theorem kl_gr {a b c : KY} (h : ¬ kl a c) (h1 : a.1 ≤ b.1) (h2 : a.2.1 ≤ b.2.1) (h3 : a.2.2 ≤ b.2.2) : ¬ kl b c := by unfold kl at *; omega

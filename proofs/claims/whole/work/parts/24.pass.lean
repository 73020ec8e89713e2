/-! what passes: weirs, pumps, sluices -/
def wvm (S : SS) (W : Nat → Int32) (a b k : Nat) : Int32 :=
  if lev S W a - (if S 13 k ≤ lev S W b then lev S W b else S 13 k) ≤ 0 then 0 else
  if (if (S 14 k).toInt64 * (lev S W a - (if S 13 k ≤ lev S W b then lev S W b else S 13 k)).toInt64 ≥ (S 3 a).toInt64 * (S 3 b).toInt64 * (lev S W a - (if S 13 k ≤ lev S W b then lev S W b else S 13 k)).toInt64 / (S 3 a + S 3 b).toInt64 then (S 3 a).toInt64 * (S 3 b).toInt64 * (lev S W a - (if S 13 k ≤ lev S W b then lev S W b else S 13 k)).toInt64 / (S 3 a + S 3 b).toInt64 else (S 14 k).toInt64 * (lev S W a - (if S 13 k ≤ lev S W b then lev S W b else S 13 k)).toInt64) ≥ (W a).toInt64 then W a else
  (if (S 14 k).toInt64 * (lev S W a - (if S 13 k ≤ lev S W b then lev S W b else S 13 k)).toInt64 ≥ (S 3 a).toInt64 * (S 3 b).toInt64 * (lev S W a - (if S 13 k ≤ lev S W b then lev S W b else S 13 k)).toInt64 / (S 3 a + S 3 b).toInt64 then (S 3 a).toInt64 * (S 3 b).toInt64 * (lev S W a - (if S 13 k ≤ lev S W b then lev S W b else S 13 k)).toInt64 / (S 3 a + S 3 b).toInt64 else (S 14 k).toInt64 * (lev S W a - (if S 13 k ≤ lev S W b then lev S W b else S 13 k)).toInt64).toInt32
def shf (W : Nat → Int32) (a b : Nat) (v : Int32) : Nat → Int32 := upd (upd W a (W a - v)) b (upd W a (W a - v) b + v)
theorem shf_0 (W : Nat → Int32) (a b : Nat) : shf W a b 0 = W := by unfold shf; rw [upd_0, upd_p0]
def wA (S : SS) (k : Nat) : Nat := (S 11 k).toNatClampNeg
def wB (S : SS) (k : Nat) : Nat := (S 12 k).toNatClampNeg
def wW (S : SS) (W : Nat → Int32) : Nat → (Nat → Int32)
  | 0 => W
  | k + 1 => shf (wW S W k) (wA S k) (wB S k) (wvm S (wW S W k) (wA S k) (wB S k) k)
def wF (S : SS) (W : Nat → Int32) (k : Nat) : Int32 := wvm S (wW S W k) (wA S k) (wB S k) k
/-- a pump: what it takes, where it goes -/
def pA (S : SS) (k : Nat) : Nat := (S 16 k).toNatClampNeg
def pvm (S : SS) (W : Nat → Int32) (b k : Nat) : Int32 := if b.testBit k then (if W (pA S k) < S 18 k then W (pA S k) else S 18 k) else 0
def pst (S : SS) (W : Nat → Int32) (k : Nat) (v : Int32) : Nat → Int32 := if S 17 k = -4 then upd W (pA S k) (W (pA S k) - v) else shf W (pA S k) (S 17 k).toNatClampNeg v
theorem pst_0 (S : SS) (W : Nat → Int32) (k : Nat) : pst S W k 0 = W := by unfold pst; split; exact upd_0 _ _; exact shf_0 _ _ _
def pW (S : SS) (b : Nat) (W : Nat → Int32) : Nat → (Nat → Int32)
  | 0 => W
  | k + 1 => pst S (pW S b W k) k (pvm S (pW S b W k) b k)
def pF (S : SS) (b : Nat) (W : Nat → Int32) (k : Nat) : Int32 := pvm S (pW S b W k) b k
def sA (S : SS) (k : Nat) : Nat := (S 23 k).toNatClampNeg
def svm (S : SS) (W : Nat → Int32) (i k : Nat) : Int32 :=
  if S 25 k = 0 then 0 else if 0 < lev S W (sA S k) - S 30 i then (if (S 24 k).toInt64 * (lev S W (sA S k) - S 30 i).toInt64 ≥ (W (sA S k)).toInt64 then W (sA S k) else ((S 24 k).toInt64 * (lev S W (sA S k) - S 30 i).toInt64).toInt32) else 0
def sst (S : SS) (W : Nat → Int32) (k : Nat) (v : Int32) : Nat → Int32 := upd W (sA S k) (W (sA S k) - v)
def sW (S : SS) (i : Nat) (W : Nat → Int32) : Nat → (Nat → Int32)
  | 0 => W
  | k + 1 => sst S (sW S i W k) k (svm S (sW S i W k) i k)
def sF (S : SS) (i : Nat) (W : Nat → Int32) (k : Nat) : Int32 := svm S (sW S i W k) i k
def rnW (S : SS) (rain : Int32) (W : Nat → Int32) : Nat → Int32 := fun d => W d + rain * S 3 d
/-- an hour: all that flows -/
def mvR (S : SS) (nd : Nat) (rain : Int32) (W : Nat → Int32) : Nat → Int32 := pre nd (rnW S rain W) W
def mvW (S : SS) (nd nw : Nat) (rain : Int32) (W : Nat → Int32) : Nat → Int32 := wW S (mvR S nd rain W) nw
def mvP (S : SS) (nd nw np : Nat) (rain : Int32) (b : Nat) (W : Nat → Int32) : Nat → Int32 := pW S b (mvW S nd nw rain W) np
def mvS (S : SS) (nd nw np ns : Nat) (rain : Int32) (i b : Nat) (W : Nat → Int32) : Nat → Int32 := sW S i (mvP S nd nw np rain b W) ns
theorem wvm_congr {S S' : SS} (h : ∀ k ∈ rowL, S k = S' k) (W : Nat → Int32) (a b k : Nat) : wvm S W a b k = wvm S' W a b k := by
  unfold wvm
  rw [lev_congr h, lev_congr h, h 3 (by decide), h 13 (by decide), h 14 (by decide)]
theorem wW_congr {S S' : SS} (h : ∀ k ∈ rowL, S k = S' k) (W : Nat → Int32) : ∀ k, wW S W k = wW S' W k
  | 0 => rfl
  | k + 1 => by
    unfold wW wA wB
    rw [wW_congr h W k, wvm_congr h, h 11 (by decide), h 12 (by decide)]
theorem wF_congr {S S' : SS} (h : ∀ k ∈ rowL, S k = S' k) (W : Nat → Int32) (k : Nat) : wF S W k = wF S' W k := by
  unfold wF wA wB
  rw [wW_congr h, wvm_congr h, h 11 (by decide), h 12 (by decide)]
theorem pvm_congr {S S' : SS} (h : ∀ k ∈ rowL, S k = S' k) (W : Nat → Int32) (b k : Nat) : pvm S W b k = pvm S' W b k := by
  unfold pvm pA
  rw [h 16 (by decide), h 18 (by decide)]
theorem pst_congr {S S' : SS} (h : ∀ k ∈ rowL, S k = S' k) (W : Nat → Int32) (k : Nat) (v : Int32) : pst S W k v = pst S' W k v := by
  unfold pst pA
  rw [h 16 (by decide), h 17 (by decide)]
theorem pW_congr {S S' : SS} (h : ∀ k ∈ rowL, S k = S' k) (b : Nat) (W : Nat → Int32) : ∀ k, pW S b W k = pW S' b W k
  | 0 => rfl
  | k + 1 => by
    unfold pW
    rw [pW_congr h b W k, pvm_congr h, pst_congr h]
theorem pF_congr {S S' : SS} (h : ∀ k ∈ rowL, S k = S' k) (b : Nat) (W : Nat → Int32) (k : Nat) : pF S b W k = pF S' b W k := by
  unfold pF
  rw [pW_congr h, pvm_congr h]
theorem svm_congr {S S' : SS} (h : ∀ k ∈ rowL, S k = S' k) (W : Nat → Int32) (i k : Nat) : svm S W i k = svm S' W i k := by
  unfold svm sA
  rw [lev_congr h, h 23 (by decide), h 24 (by decide), h 25 (by decide), h 30 (by decide)]
theorem sW_congr {S S' : SS} (h : ∀ k ∈ rowL, S k = S' k) (i : Nat) (W : Nat → Int32) : ∀ k, sW S i W k = sW S' i W k
  | 0 => rfl
  | k + 1 => by
    unfold sW sst sA
    rw [sW_congr h i W k, svm_congr h, h 23 (by decide)]
theorem sF_congr {S S' : SS} (h : ∀ k ∈ rowL, S k = S' k) (i : Nat) (W : Nat → Int32) (k : Nat) : sF S i W k = sF S' i W k := by
  unfold sF
  rw [sW_congr h, svm_congr h]
theorem mvR_congr {S S' : SS} (h : ∀ k ∈ rowL, S k = S' k) (nd : Nat) (rain : Int32) (W : Nat → Int32) : mvR S nd rain W = mvR S' nd rain W := by
  unfold mvR rnW
  rw [h 3 (by decide)]
theorem mvW_congr {S S' : SS} (h : ∀ k ∈ rowL, S k = S' k) (nd nw : Nat) (rain : Int32) (W : Nat → Int32) : mvW S nd nw rain W = mvW S' nd nw rain W := by
  unfold mvW
  rw [mvR_congr h, wW_congr h]
theorem mvP_congr {S S' : SS} (h : ∀ k ∈ rowL, S k = S' k) (nd nw np : Nat) (rain : Int32) (b : Nat) (W : Nat → Int32) : mvP S nd nw np rain b W = mvP S' nd nw np rain b W := by
  unfold mvP
  rw [mvW_congr h, pW_congr h]
theorem mvS_congr {S S' : SS} (h : ∀ k ∈ rowL, S k = S' k) (nd nw np ns : Nat) (rain : Int32) (i b : Nat) (W : Nat → Int32) : mvS S nd nw np ns rain i b W = mvS S' nd nw np ns rain i b W := by
  unfold mvS
  rw [mvP_congr h, sW_congr h]
theorem mul64 {A B : Nat} (h1 : A ≤ 50) (h2 : B ≤ 50) : (nI A * nI B : Int32).toInt64 = (nI A).toInt64 * (nI B).toInt64 := by
  have h3 : A * B ≤ 50 * 50 := Nat.mul_le_mul h1 h2
  rw [pk_mul, nI_l (by omega), nI_l (by omega), nI_l (by omega), lN_mul]
theorem ge_gt (a b : Int64) : (if a > b then b else a) = (if a ≥ b then b else a) := by
  by_cases h : a > b
  · have h2 : a ≥ b := by
      have h9 : b < a := h
      show b ≤ a
      rw [Int64.lt_iff_toInt_lt] at h9; rw [Int64.le_iff_toInt_le]; omega
    rw [if_pos h, if_pos h2]
  · rw [if_neg h]
    by_cases h2 : a ≥ b
    · rw [if_pos h2]
      have h8 : b ≤ a := h2
      have h9 : ¬ b < a := h
      rw [Int64.lt_iff_toInt_lt] at h9; rw [Int64.le_iff_toInt_le] at h8
      exact Int64.toInt_inj.mp (by omega)
    · rw [if_neg h2]
theorem lt_nle (a b : Int64) : a > b ↔ ¬ b ≥ a := by
  show b < a ↔ ¬ a ≤ b
  rw [Int64.lt_iff_toInt_lt, Int64.le_iff_toInt_le]; omega
theorem mx_eq (a b : Int32) : (if a < b then b else a) = (if a ≤ b then b else a) := by
  by_cases h : a < b
  · have h2 : a ≤ b := by rw [Int32.lt_iff_toInt_lt] at h; rw [Int32.le_iff_toInt_le]; omega
    rw [if_pos h, if_pos h2]
  · rw [if_neg h]
    by_cases h2 : a ≤ b
    · rw [if_pos h2]
      rw [Int32.lt_iff_toInt_lt] at h; rw [Int32.le_iff_toInt_le] at h2
      exact Int32.toInt_inj.mp (by omega)
    · rw [if_neg h2]
theorem le0_64 (x : Int32) : x.toInt64 ≤ 0 ↔ x ≤ 0 := by rw [show (0 : Int64) = (0 : Int32).toInt64 by decide, le64]
theorem gt0_64 (x : Int32) : x.toInt64 > 0 ↔ 0 < x := by
  show (0 : Int64) < x.toInt64 ↔ _
  rw [show (0 : Int64) = (0 : Int32).toInt64 by decide, lt64]
theorem to32_64 (x : Int32) : x.toInt64.toInt32 = x := by
  first | exact Int32.toInt32_toInt64 x | simp
theorem ar_ne {A B : Nat} (a1 : 1 ≤ A) (a2 : A ≤ 50) (b2 : B ≤ 50) : ¬ (nI A + nI B : Int32).toInt64 = 0 := by
  rw [nI_add, nI_l (by omega), show (0 : Int64) = lN 0 by decide, lN_eq (by omega) (by omega)]
  omega
theorem ar_ge {A B : Nat} (a1 : 1 ≤ A) (a2 : A ≤ 50) (b2 : B ≤ 50) : (nI A + nI B : Int32).toInt64 ≥ 1 := by
  rw [nI_add, nI_l (by omega)]
  show (1 : Int64) ≤ _
  rw [show (1 : Int64) = lN 1 by decide, lN_le (by omega) (by omega)]
  omega
theorem pick64 (x : Int32) (m : Int64) : (if x.toInt64 > m then m else x.toInt64).toInt32 = (if m ≥ x.toInt64 then x else m.toInt32) := by
  by_cases c9 : x.toInt64 > m
  · rw [if_pos c9, if_neg ((lt_nle _ _).mp c9)]
  · rw [if_neg c9, to32_64, if_pos (Classical.not_not.mp ((not_congr (lt_nle _ _)).mp c9))]
theorem fn_passWeir {M : MM} {nd nw np ns w k : Nat} (V : VLd M.1 nd nw np ns) (hw : shp w = (1, 0, 6, [])) (hk : k < nw) : Fn 2 mX2_passWeir [.ref 1, .int (nI k), .ref w] M (some (.int (wvm M.1 (M.1 w) (wA M.1 k) (wB M.1 k) k))) (uc M w (shf (M.1 w) (wA M.1 k) (wB M.1 k) (wvm M.1 (M.1 w) (wA M.1 k) (wB M.1 k) k))) := fn_intro ok_X2_passWeir (Nat.le_of_ble_eq_true rfl) fun G g gr => by
  have h6 := V.d6
  have h8 := V.w8
  obtain ⟨a, b, x, ha, hb, hab, x1, x2, ea, eb, ex⟩ := V.w hk
  obtain ⟨A, A1, A2, eA⟩ := V.A ha
  obtain ⟨B, B1, B2, eB⟩ := V.A hb
  have ca : (nI a).toNatClampNeg = a := nI_clamp (by omega)
  have cb : (nI b).toNatClampNeg = b := nI_clamp (by omega)
  have qa : wA M.1 k = a := by unfold wA; rw [ea, ca]
  have qb : wB M.1 k = b := by unfold wB; rw [eb, cb]
  rw [qa, qb] at gr
  have gr : GoodR G (some (.int (wvm M.1 (M.1 w) a b k))) (uc M w (shf (M.1 w) a b (wvm M.1 (M.1 w) a b k))) := gr
  refine b_X2_passWeir_0 g gr (by decide) (nI k) w hw M ⟨vp_in_nI (by omega) (by omega), ?_⟩
  rw [nI_clamp (show k < 2 ^ 31 by omega), ea, eb]
  intro x2 e2 x3 e3
  subst e2; subst e3
  refine ⟨_, _, fn_X0_level hw (by omega) A1 A2 eA, _, _, fn_X0_level hw (by omega) B1 B2 eB, _, _, fn_maxi _ _ M, ?_⟩
  rw [ca, cb, mx_eq]
  intro x13 e13
  refine ⟨vp_in_nI (by omega) (by omega), vp_in_nI (by omega) (by omega), ?_⟩
  intro x16 e16
  rw [e13, le0_64]
  refine ⟨fun c => ?_, fun c => ⟨fun _ => ?_, fun c2 => ?_⟩⟩
  · have z : wvm M.1 (M.1 w) a b k = 0 := by unfold wvm; rw [if_pos c]
    rw [z, shf_0, uc_self]
    exact ⟨rfl, rfl⟩
  · refine ⟨by rw [e16, eA, eB]; exact ar_ne A1 A2 B2, ?_⟩
    intro x20 e20
    rw [eA, eB, mul64 A2 B2, ← eA, ← eB] at e20
    refine ⟨_, _, fn_minl _ _ M, _, _, fn_minl _ _ M, ?_⟩
    intro x27 e27 M28 e28 M29 e29
    have z : x27 = wvm M.1 (M.1 w) a b k := by
      unfold wvm
      rw [if_neg c, e27, pick64, ge_gt, e20, e16]
    refine ⟨by rw [z], ?_⟩
    rw [e29, e28, ui_row, ui_row, uc_at, uc_uc, ← z]
    rfl
  · exfalso
    apply c2
    rw [e16, eA, eB]
    exact ar_ge A1 A2 B2

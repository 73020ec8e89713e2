/-! the world: places in the order of making; what they hold: a memory of ints and longs -/
abbrev MM : Type := (Nat → Nat → Int32) × (Nat → Nat → Int64)
def ui (M : MM) (k j : Nat) (v : Int32) : MM := (fun a b => if a = k ∧ b = j then v else M.1 a b, M.2)
def ul (M : MM) (k j : Nat) (v : Int64) : MM := (M.1, fun a b => if a = k ∧ b = j then v else M.2 a b)
def uc (M : MM) (k : Nat) (f : Nat → Int32) : MM := (fun a b => if a = k then f b else M.1 a b, M.2)
abbrev Sh : Type := Nat × Nat × Nat × List Nat
def NPl : Nat := 107
def shL : List Sh := [(0, 9, 0, [3, 34, 39, 66]), (0, 2, 0, [4, 12, 17, 24, 28, 32, 33, 0, 0]), (0, 0, 0, [5, 6, 7, 8, 9, 10, 11, 0]), (1, 0, 6, []), (1, 0, 6, []), (1, 0, 6, []), (1, 0, 6, []), (1, 0, 6, []), (1, 0, 6, []), (1, 0, 6, []), (0, 7, 0, [13, 14, 15, 16, 0]), (1, 0, 8, []), (1, 0, 8, []), (1, 0, 8, []), (1, 0, 8, []), (0, 4, 0, [18, 19, 20, 21, 22, 23, 0, 0]), (1, 0, 4, []), (1, 0, 4, []), (1, 0, 4, []), (1, 0, 4, []), (1, 0, 4, []), (1, 0, 4, []), (0, 6, 0, [25, 26, 27, 0]), (1, 0, 4, []), (1, 0, 4, []), (2, 1, 4, []), (0, 1, 0, [29, 30, 31]), (1, 0, 8, []), (1, 0, 4, []), (1, 0, 4, []), (1, 0, 24, []), (1, 0, 24, []), (0, 8, 0, [35, 0]), (3, 2, 3, [34]), (1, 0, 6, []), (1, 0, 6, []), (1, 0, 6, []), (0, 3, 0, [3, 34, 40, 62, 0, 0, 1, 1]), (3, 2, 21, [39]), (1, 0, 6, []), (1, 0, 6, []), (1, 0, 6, []), (1, 0, 6, []), (1, 0, 6, []), (1, 0, 6, []), (1, 0, 6, []), (1, 0, 6, []), (1, 0, 6, []), (1, 0, 6, []), (1, 0, 6, []), (1, 0, 6, []), (1, 0, 6, []), (1, 0, 6, []), (1, 0, 6, []), (1, 0, 6, []), (1, 0, 6, []), (1, 0, 6, []), (1, 0, 6, []), (1, 0, 6, []), (1, 0, 6, []), (0, 1, 0, [63, 64, 65]), (1, 0, 8, []), (1, 0, 4, []), (1, 0, 4, []), (0, 5, 0, [67, 72, 73]), (3, 2, 4, [66]), (1, 0, 60, []), (1, 0, 60, []), (1, 0, 60, []), (1, 0, 60, []), (1, 0, 4, []), (1, 0, 4, []), (0, 10, 0, [0, 75, 76, 77, 78, 79, 80, 81, 0, 82, 83, 84, 85, 0, 86, 87, 88, 89, 90, 91, 92, 0, 93, 94, 95, 96, 97, 0, 0, 98, 99, 100, 0, 101, 102, 103, 104, 105, 0, 1, 1, 106, 107, 108]), (1, 0, 6, []), (1, 0, 6, []), (1, 0, 6, []), (1, 0, 6, []), (1, 0, 6, []), (1, 0, 6, []), (1, 0, 6, []), (1, 0, 8, []), (1, 0, 8, []), (1, 0, 8, []), (1, 0, 8, []), (1, 0, 4, []), (1, 0, 4, []), (1, 0, 4, []), (1, 0, 4, []), (1, 0, 4, []), (2, 1, 4, []), (1, 0, 4, []), (1, 0, 4, []), (1, 0, 4, []), (2, 1, 4, []), (1, 0, 24, []), (1, 0, 24, []), (1, 0, 8, []), (1, 0, 4, []), (1, 0, 4, []), (1, 0, 18, []), (1, 0, 6, []), (1, 0, 6, []), (1, 0, 6, []), (1, 0, 16, []), (1, 0, 4, []), (1, 0, 4, []), (1, 0, 240, [])]
def shp (k : Nat) : Sh := shL.getD k (9, 0, 0, [])
theorem shp_lt {k : Nat} {a : Sh} (h : shp k = a) (h9 : a.1 ≠ 9) : k < NPl := by
  rcases Nat.lt_or_ge k NPl with q | q
  · exact q
  · exfalso
    apply h9
    rw [← h]
    have : shL.length ≤ k := by
      have e : shL.length = NPl := by decide +kernel
      omega
    simp [shp, List.getD, List.getElem?_eq_none this]
def fval (ad : Nat → Nat) (M : MM) (k j c : Nat) : Value := if c = 0 then .int (M.1 k j) else if c = 1 then .long (M.2 k j) else .ref (ad (c - 2))
def fvals (ad : Nat → Nat) (M : MM) (k : Nat) : Nat → List Nat → List Value
  | _, [] => []
  | j, c :: cs => fval ad M k j c :: fvals ad M k (j + 1) cs
theorem fvals_len (ad : Nat → Nat) (M : MM) (k : Nat) : ∀ (cs : List Nat) (j : Nat), (fvals ad M k j cs).length = cs.length
  | [], _ => rfl
  | c :: cs, j => by simp [fvals, fvals_len ad M k cs (j + 1)]
theorem fvals_get (ad : Nat → Nat) (M : MM) (k : Nat) : ∀ (cs : List Nat) (j i c : Nat), cs[i]? = some c → (fvals ad M k j cs)[i]? = some (fval ad M k (j + i) c)
  | [], j, i, c, h => by simp at h
  | d :: cs, j, 0, c, h => by
    have e : d = c := by simpa using h
    subst e
    rfl
  | d :: cs, j, i + 1, c, h => by
    have h1 : cs[i]? = some c := by simpa using h
    have := fvals_get ad M k cs (j + 1) i c h1
    simpa [fvals, Nat.add_assoc, Nat.add_comm 1 i] using this
theorem fvals_congr (ad : Nat → Nat) {M M' : MM} {k : Nat} (h1 : M.1 k = M'.1 k) (h2 : M.2 k = M'.2 k) : ∀ (cs : List Nat) (j : Nat), fvals ad M k j cs = fvals ad M' k j cs
  | [], _ => rfl
  | c :: cs, j => by simp [fvals, fval, h1, h2, fvals_congr ad h1 h2 cs (j + 1)]
theorem fvals_set (ad : Nat → Nat) {M M' : MM} {k : Nat} (v : Value) : ∀ (cs : List Nat) (j i c : Nat), cs[i]? = some c → fval ad M' k (j + i) c = v → (∀ a : Nat, a ≠ j + i → M.1 k a = M'.1 k a) → (∀ a : Nat, a ≠ j + i → M.2 k a = M'.2 k a) → (fvals ad M k j cs).set i v = fvals ad M' k j cs
  | [], j, i, c, h, _, _, _ => by simp at h
  | d :: cs, j, 0, c, h, hv, h1, h2 => by
    have e : d = c := by simpa using h
    subst e
    have t : fvals ad M k (j + 1) cs = fvals ad M' k (j + 1) cs := by
      have aux : ∀ (cs : List Nat) (b : Nat), j < b → fvals ad M k b cs = fvals ad M' k b cs := by
        intro cs
        induction cs with
        | nil => intro b _; rfl
        | cons c cs ih =>
          intro b hb
          have e1 := h1 b (by omega)
          have e2 := h2 b (by omega)
          simp [fvals, fval, e1, e2, ih (b + 1) (by omega)]
      exact aux cs (j + 1) (by omega)
    simp only [Nat.add_zero] at hv
    simp [fvals, t, hv]
  | d :: cs, j, i + 1, c, h, hv, h1, h2 => by
    have h3 : cs[i]? = some c := by simpa using h
    have e : j + 1 + i = j + (i + 1) := by omega
    have t := fvals_set ad v cs (j + 1) i c h3 (by rw [e]; exact hv) (by rw [e]; exact h1) (by rw [e]; exact h2)
    have e1 := h1 j (by omega)
    have e2 := h2 j (by omega)
    simp [fvals, fval, e1, e2, t]
def ce (ad : Nat → Nat) (cA : Nat → ClassId) (M : MM) (k : Nat) : va_E := match shp k with
  | (0, ci, _, fk) => .inr (ci, fvals ad M k 0 fk)
  | (1, _, n, _) => .inl (cA 0, n, .inl (M.1 k))
  | (2, _, n, _) => .inl (cA 1, n, .inl (M.1 k))
  | (_, _, n, l) => .inl (cA 2, n, .inr (.inr (.inr (.inr (fun j => if j < n then some (ad (l.headD 0 + j)) else none)))))
theorem ce_congr (ad : Nat → Nat) (cA : Nat → ClassId) {M M' : MM} {k : Nat} (h1 : M.1 k = M'.1 k) (h2 : M.2 k = M'.2 k) : ce ad cA M k = ce ad cA M' k := by
  unfold ce
  rcases shp k with ⟨a, b, c, d⟩
  rcases a with _ | _ | _ | a
  · simp [fvals_congr ad h1 h2]
  · simp [h1]
  · simp [h1]
  · rfl
def wl (ad : Nat → Nat) (cA : Nat → ClassId) (M : MM) : va_W := (List.range NPl).map (fun k => (ad k, ce ad cA M k))
theorem wl_at (ad : Nat → Nat) (cA : Nat → ClassId) (M : MM) {k : Nat} (h : k < NPl) : (wl ad cA M)[k]? = some (ad k, ce ad cA M k) := by simp [wl, h]
theorem wl_set (ad : Nat → Nat) (cA : Nat → ClassId) {M M' : MM} {k : Nat} {e : va_E} (he : ce ad cA M' k = e) (h1 : ∀ a : Nat, a ≠ k → M.1 a = M'.1 a) (h2 : ∀ a : Nat, a ≠ k → M.2 a = M'.2 a) : (wl ad cA M).set k (ad k, e) = wl ad cA M' := by
  apply List.ext_getElem?
  intro i
  by_cases hi : i < NPl
  · rw [wl_at ad cA M' hi]
    by_cases e1 : k = i
    · subst e1
      rw [List.getElem?_set_self (by simpa [wl] using hi), he]
    · rw [List.getElem?_set_ne e1, wl_at ad cA M hi, ce_congr ad cA (h1 i (fun q => e1 q.symm)) (h2 i (fun q => e1 q.symm))]
  · rw [List.getElem?_eq_none (by simp [wl]; omega), List.getElem?_eq_none (by simp [wl]; omega)]
theorem wl_D {A : Nat → Prop} {ad : Nat → Nat} {cA : Nat → ClassId} {M : MM} (M' : MM) (h : va_D A (wl ad cA M)) : va_D A (wl ad cA M') := by
  have key : ∀ (i : Nat) (p : Nat × va_E), (wl ad cA M')[i]? = some p → ∃ p' : Nat × va_E, (wl ad cA M)[i]? = some p' ∧ p'.1 = p.1 := by
    intro i p hp
    by_cases hi : i < NPl
    · rw [wl_at ad cA M' hi] at hp
      cases hp
      exact ⟨_, wl_at ad cA M hi, rfl⟩
    · rw [List.getElem?_eq_none (by simp [wl]; omega)] at hp
      cases hp
  refine ⟨fun i j p q hp hq hpq => ?_, fun i p hp => ?_⟩
  · obtain ⟨p', a1, a2⟩ := key i p hp
    obtain ⟨q', b1, b2⟩ := key j q hq
    exact h.1 i j p' q' a1 b1 (by rw [a2, b2, hpq])
  · obtain ⟨p', a1, a2⟩ := key i p hp
    rw [← a2]
    exact h.2 i p' a1
def tyL (cA : Nat → ClassId) : List (ClassId × FieldType) := [(cA 0, .int), (cA 1, .boolean), (cA 2, .array .int)]
def inW (ad : Nat → Nat) : Nat → Prop := fun q => ∃ k : Nat, k < NPl ∧ q = ad k
theorem inW_D {ad : Nat → Nat} {cA : Nat → ClassId} {M : MM} {A : Nat → Prop} (h : va_D A (wl ad cA M)) : ∀ q : Nat, inW ad q → A q := by
  rintro q ⟨k, hk, rfl⟩
  exact h.2 k _ (wl_at ad cA M hk)
theorem D_inW {ad : Nat → Nat} {cA : Nat → ClassId} {M : MM} {A : Nat → Prop} (h : va_D A (wl ad cA M)) : va_D (inW ad) (wl ad cA M) := by
  refine ⟨h.1, fun k q hq => ?_⟩
  by_cases hi : k < NPl
  · rw [wl_at ad cA M hi] at hq
    cases hq
    exact ⟨k, hi, rfl⟩
  · rw [List.getElem?_eq_none (by simp [wl]; omega)] at hq
    cases hq
/-! the tables' words: those that stay, and those of nest mates -/
def TB : List Cond := lw_tbl.filter goodWord
def isNest : Cond → Bool
  | .fieldLinkNest .. => true
  | .methodLinkNest .. => true
  | _ => false
def NB : List Cond := lw_tbl.filter isNest
theorem tb_of {w : Cond} (i : Nat) (h : lw_tbl[i]? = some w) (hg : goodWord w = true) : w ∈ TB := List.mem_filter.mpr ⟨List.mem_of_getElem? h, hg⟩
theorem nb_of {w : Cond} (i : Nat) (h : lw_tbl[i]? = some w) (hg : isNest w = true) : w ∈ NB := List.mem_filter.mpr ⟨List.mem_of_getElem? h, hg⟩
theorem tb_good {w : Cond} (h : w ∈ TB) : goodWord w = true := (List.mem_filter.mp h).2
theorem goodIn_tb {ws : List Cond} (h : ∀ w ∈ ws, w ∈ TB) : GoodIn TB ws := fun w hw => ⟨h w hw, good_of_word (tb_good (h w hw))⟩
theorem nb_warm {s U : State} (hW : s.WarmedH U.vm) (h : ∀ w ∈ NB, va_Nw w s) : ∀ w ∈ NB, va_Nw w U := by
  intro w hw
  have hn := (List.mem_filter.mp hw).2
  have hs := h w hw
  cases w <;> first | (exact va_Nw.warmF hW hs) | (exact va_Nw.warmM hW hs) | (simp [isNest] at hn)
theorem nb_same {u U : State} (hvm : u.vm = U.vm) (h : ∀ w ∈ NB, va_Nw w u) : ∀ w ∈ NB, va_Nw w U := by
  intro w hw
  have hn := (List.mem_filter.mp hw).2
  have hs := h w hw
  cases w <;> first | (exact va_Nw.same rfl hvm hs) | (simp [isNest] at hn)
/-! contexts -/
abbrev WC : Type := Launch × (Nat → Nat) × va_G × (Nat → ClassId)
abbrev FC : Type := Program × Env × Room × State × MethodId × Array Value × List Frame × Method × Code × (State → Prop) × (Nat → Prop) × Nat × Nat
abbrev GC : Type := WC × FC
abbrev gad (G : GC) : Nat → Nat := G.1.2.1
abbrev gD (G : GC) : va_G := G.1.2.2.1
abbrev gcA (G : GC) : Nat → ClassId := G.1.2.2.2
abbrev gp (G : GC) : Program := G.2.1
abbrev ge (G : GC) : Env := G.2.2.1
abbrev gR (G : GC) : Room := G.2.2.2.1
abbrev gs (G : GC) : State := G.2.2.2.2.1
abbrev gm (G : GC) : MethodId := G.2.2.2.2.2.1
abbrev gargs (G : GC) : Array Value := G.2.2.2.2.2.2.1
abbrev gbelow (G : GC) : List Frame := G.2.2.2.2.2.2.2.1
abbrev gmeth (G : GC) : Method := G.2.2.2.2.2.2.2.2.1
abbrev gc (G : GC) : Code := G.2.2.2.2.2.2.2.2.2.1
abbrev gQ (G : GC) : State → Prop := G.2.2.2.2.2.2.2.2.2.2.1
abbrev gA (G : GC) : Nat → Prop := G.2.2.2.2.2.2.2.2.2.2.2.1
abbrev gcl (G : GC) : Nat := G.2.2.2.2.2.2.2.2.2.2.2.2.1
abbrev gsl (G : GC) : Nat := G.2.2.2.2.2.2.2.2.2.2.2.2.2
def cv (ad : Nat → Nat) : Value → Value
  | .ref k => .ref (ad k)
  | v => v
theorem cv_cat (ad : Nat → Nat) (v : Value) : (cv ad v).category = v.category := by cases v <;> rfl
def cvL (ad : Nat → Nat) (L : List (Nat × Value)) : List (Nat × Value) := L.map (fun q => (q.1, cv ad q.2))
theorem cvL_at {ad : Nat → Nat} {L : List (Nat × Value)} {j i : Nat} {v : Value} (h : L[j]? = some (i, v)) : (cvL ad L)[j]? = some (i, cv ad v) := by simp [cvL, h]
abbrev MI : Type := MethodName × ByteArray × Nat × Option FieldType
/-- the walk from a place of a method's code, over a memory -/
def Ev (G : GC) (pc : Nat) (L : List (Nat × Value)) (S : List Value) (M : MM) : Prop :=
  ∀ (H : Heap) (locs : List Loc) (ls : Array Slot), va_P (gD G) vwCl (wl (gad G) (gcA G) M) H → va_S (gA G) (gs G).heap H locs → lv_has ls (gc G).maxLocals (cvL (gad G) L) →
    W (gp G) G.1.1 (ge G) (gR G) (gs G) (gm G) (gargs G) (gbelow G) (gmeth G) (gc G) H locs (gcl G) (gsl G) (gQ G) (F0 (gm G) pc ls (S.map (cv (gad G))))
def M0 : MM := (fun _ _ => 0, fun _ _ => 0)
def Good (G : GC) (X : MI) (n : Nat) : Prop :=
  (gp G).tables.exec = Jvm.exec ∧ (gc G).code = X.2.1 ∧ (gc G).maxLocals = X.2.2.1 ∧ (gs G).vm.findClass X.1.cls = some (gm G).cls ∧ (∀ w ∈ TB, w.before (gargs G) (gs G) = true) ∧ (∀ w ∈ NB, va_Nw w (gs G)) ∧ (gmeth G).sig.returnType = X.2.2.2 ∧ (gmeth G).locks = false ∧
  va_K (gD G) vwCl (tyL (gcA G)) (gs G) ∧ va_D (gA G) (wl (gad G) (gcA G) M0) ∧ gcl G ≤ (gR G).cells ∧ gsl G ≤ (gR G).slots ∧ n ≤ (gR G).frames ∧ 100 * n ≤ (gR G).locals
theorem Good.x {G : GC} {X : MI} {n : Nat} (g : Good G X n) : (gp G).tables.exec = Jvm.exec := g.1
theorem Good.b {G : GC} {X : MI} {n : Nat} (g : Good G X n) : (gc G).code = X.2.1 := g.2.1
theorem Good.ml {G : GC} {X : MI} {n : Nat} (g : Good G X n) : (gc G).maxLocals = X.2.2.1 := g.2.2.1
theorem Good.own {G : GC} {X : MI} {n : Nat} (g : Good G X n) : (gs G).vm.findClass X.1.cls = some (gm G).cls := g.2.2.2.1
theorem Good.ts {G : GC} {X : MI} {n : Nat} (g : Good G X n) : ∀ w ∈ TB, w.before (gargs G) (gs G) = true := g.2.2.2.2.1
theorem Good.nb {G : GC} {X : MI} {n : Nat} (g : Good G X n) : ∀ w ∈ NB, va_Nw w (gs G) := g.2.2.2.2.2.1
theorem Good.r {G : GC} {X : MI} {n : Nat} (g : Good G X n) : (gmeth G).sig.returnType = X.2.2.2 := g.2.2.2.2.2.2.1
theorem Good.lk {G : GC} {X : MI} {n : Nat} (g : Good G X n) : (gmeth G).locks = false := g.2.2.2.2.2.2.2.1
theorem Good.K {G : GC} {X : MI} {n : Nat} (g : Good G X n) : va_K (gD G) vwCl (tyL (gcA G)) (gs G) := g.2.2.2.2.2.2.2.2.1
theorem Good.D {G : GC} {X : MI} {n : Nat} (g : Good G X n) (M : MM) : va_D (gA G) (wl (gad G) (gcA G) M) := wl_D M g.2.2.2.2.2.2.2.2.2.1
theorem Good.rc {G : GC} {X : MI} {n : Nat} (g : Good G X n) : gcl G ≤ (gR G).cells := g.2.2.2.2.2.2.2.2.2.2.1
theorem Good.rs {G : GC} {X : MI} {n : Nat} (g : Good G X n) : gsl G ≤ (gR G).slots := g.2.2.2.2.2.2.2.2.2.2.2.1
theorem Good.rf {G : GC} {X : MI} {n : Nat} (g : Good G X n) : n ≤ (gR G).frames := g.2.2.2.2.2.2.2.2.2.2.2.2.1
theorem Good.rl {G : GC} {X : MI} {n : Nat} (g : Good G X n) : 100 * n ≤ (gR G).locals := g.2.2.2.2.2.2.2.2.2.2.2.2.2
/-! contracts -/
def wsM (X : MI) : List Cond := .code X.1 X.2.1 X.2.2.1 X.2.2.2 :: TB
def rmM (n : Nat) : Room := { frames := n, cells := 0, slots := 0, locals := 100 * n }
def FP (w : WC) (M : MM) (U : State) : Prop := va_P w.2.2.1 vwCl (wl w.2.1 w.2.2.2 M) U.heap ∧ va_K w.2.2.1 vwCl (tyL w.2.2.2) U ∧ (∀ x ∈ NB, va_Nw x U) ∧ va_D (fun _ => True) (wl w.2.1 w.2.2.2 M)
def FQ (w : WC) (r : Option Value) (M' : MM) : Array Value → State → Outcome → State → Prop := fun _ st oc t => (oc = .returned (r.map (cv w.2.1)) ∧ va_P w.2.2.1 vwCl (wl w.2.1 w.2.2.2 M') t.heap) ∧ va_F (inW w.2.1) st t
/-- a method's contract: at these arguments and this memory it answers r and leaves the memory M' -/
def Fn (n : Nat) (X : MI) (as : List Value) (M : MM) (r : Option Value) (M' : MM) : Prop :=
  ∀ w : WC, Met w.1 X.1 (wsM X) (rmM n) (va_Pc (as.map (cv w.2.1)) (FP w M)) (FQ w r M') 0 0 (inW w.2.1)
def MOk (X : MI) : Prop := plainFor X.1 = true ∧ Cond.code X.1 X.2.1 X.2.2.1 X.2.2.2 ∈ TB ∧ Cond.initialized X.1.cls ∈ TB ∧ (X.1.cls ≠ "java/lang/invoke/MethodHandle" ∧ X.1.cls ≠ "java/lang/invoke/VarHandle") ∧ X.2.2.1 ≤ 80
def GoodR (G : GC) (r : Option Value) (M' : MM) : Prop := gQ G = MQ (gbelow G) (FQ G.1 r M') (gargs G) (gs G) (gcl G) (gsl G) (inW (gad G)) ∧ gA G = inW (gad G)
theorem lv_args_cv (ad : Nat → Nat) : ∀ (as : List Value) (i : Nat), lv_args i (as.map (cv ad)) = cvL ad (lv_args i as)
  | [], _ => rfl
  | v :: vs, i => by
    have h := lv_args_cv ad vs (if v.category = 2 then i + 2 else i + 1)
    simp only [List.map_cons, lv_args, cv_cat, cvL] at h ⊢
    rw [h]
theorem lg_sl_cv (ad : Nat → Nat) : ∀ (as : List Value), (lg_sl (as.map (cv ad))).length = (lg_sl as).length
  | [] => rfl
  | v :: vs => by
    have h := lg_sl_cv ad vs
    have h1 : ∀ v : Value, (lg_sl (v :: vs)).length = (lg_sl vs).length + v.category := fun v => by cases v <;> simp [lg_sl, Value.category] <;> rfl
    have h2 : (lg_sl ((cv ad v) :: vs.map (cv ad))).length = (lg_sl (vs.map (cv ad))).length + (cv ad v).category := by cases v <;> simp [lg_sl, cv, Value.category] <;> rfl
    show (lg_sl (cv ad v :: vs.map (cv ad))).length = _
    rw [h2, h1, h, cv_cat]
theorem Met.ofWF {l : Launch} {y : MethodName} {ws ws' : List Cond} {rm : Room} {Pc : Array Value → State → Prop} {Qc : Array Value → State → Outcome → State → Prop} {mc ms : Nat} {free : Addr → Prop} {cc : ByteArray} {maxL : Nat} {ret : Option FieldType}
    (hy : plainFor y = true) (hw : ws = Cond.code y cc maxL ret :: ws')
    (body : ∀ p e s m args below meth c s₁, BodyLoose p l y (headSpec ws rm) cc maxL ret e s m args below meth c s₁ → c.maxLocals = maxL → Pc args s →
      W p l e (headSpec ws rm).room s m args below meth c s.heap [] 0 0 (MQ below Qc args s mc ms free) (entryFrame m args maxL)) : Met l y ws rm Pc Qc mc ms free := by
  refine MetFree.of_bodySF (code := cc) (maxLocals := maxL) (ret := ret) hy ?_ ?_
  · intro args s m h hn
    obtain ⟨meth, c, h1, h2, h3, h4, h5, h6, -, -⟩ := Cond.code_spec hn (atoms_spec (ws := ws) h _ (by rw [hw]; exact List.mem_cons_self))
    exact ⟨meth, c, h1, h2, h3, h4, h5, h6⟩
  · intro p e s m args below meth c s₁ B hml hP _
    have hh0 : s₁.heap = s.heap := by rw [B.state]; rfl
    obtain ⟨t, a1, o, b1, b2, b3⟩ := body p e s m args below meth c s₁ B hml hP s₁ hh0 (Stand.of_body B)
    exact ⟨t, o, a1, b1, b2, ⟨b3.1, b3.2⟩⟩

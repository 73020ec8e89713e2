section EV
variable {G : GC} {X : MI} {n : Nat} {pc : Nat} {L : List (Nat × Value)} {S : List Value} {M : MM}
theorem lv_atc {ad : Nat → Nat} {ls : Array Slot} {nL : Nat} {L : List (Nat × Value)} (h : lv_has ls nL (cvL ad L)) (j : Nat) {i : Nat} {v : Value} (hj : L[j]? = some (i, v)) : ls[i]? = some (.val (cv ad v)) := lv_at h j (cvL_at hj)
def stL (L : List (Nat × Value)) (i : Nat) (v : Value) : List (Nat × Value) := L.filter (fun q => decide (q.1 < i) && !(q.1 + 1 == i && q.2.category == 2)) ++ (i, v) :: L.filter (fun q => decide (i < q.1))
def stL2 (L : List (Nat × Value)) (i : Nat) (v : Value) : List (Nat × Value) := L.filter (fun q => decide (q.1 < i) && !(q.1 + 1 == i && q.2.category == 2)) ++ (i, v) :: L.filter (fun q => decide (i + 1 < q.1))
theorem st_has {ad : Nat → Nat} {ls : Array Slot} {nL i : Nat} {v : Value} {L : List (Nat × Value)} (h : lv_has ls nL ((i, cv ad v) :: (cvL ad L).filter (fun q => !(q.1 == i) && !(q.1 + 1 == i && q.2.category == 2)))) : lv_has ls nL (cvL ad (stL L i v)) := by
  refine ⟨h.1, h.2.1, fun q hq => h.2.2 q ?_⟩
  obtain ⟨q0, h0, rfl⟩ := List.mem_map.mp hq
  rcases List.mem_append.mp h0 with h1 | h1
  · obtain ⟨a, b⟩ := List.mem_filter.mp h1
    refine List.mem_cons_of_mem _ (List.mem_filter.mpr ⟨List.mem_map.mpr ⟨q0, a, rfl⟩, ?_⟩)
    simp only [Bool.and_eq_true, decide_eq_true_eq, cv_cat] at b ⊢
    refine ⟨?_, b.2⟩
    have := b.1
    simp; omega
  · rcases List.mem_cons.mp h1 with rfl | h2
    · exact List.mem_cons_self
    · obtain ⟨a, b⟩ := List.mem_filter.mp h2
      refine List.mem_cons_of_mem _ (List.mem_filter.mpr ⟨List.mem_map.mpr ⟨q0, a, rfl⟩, ?_⟩)
      simp only [decide_eq_true_eq] at b
      simp only [Bool.and_eq_true, cv_cat]
      refine ⟨by simp; omega, ?_⟩
      have : ¬ q0.1 + 1 = i := by omega
      simp [this]
theorem st_has2 {ad : Nat → Nat} {ls : Array Slot} {nL i : Nat} {v : Value} {L : List (Nat × Value)} (h : lv_has ls nL ((i, cv ad v) :: (cvL ad L).filter (fun q => !(q.1 == i) && (!(q.1 == i + 1) && !(q.1 + 1 == i && q.2.category == 2))))) : lv_has ls nL (cvL ad (stL2 L i v)) := by
  refine ⟨h.1, h.2.1, fun q hq => h.2.2 q ?_⟩
  obtain ⟨q0, h0, rfl⟩ := List.mem_map.mp hq
  rcases List.mem_append.mp h0 with h1 | h1
  · obtain ⟨a, b⟩ := List.mem_filter.mp h1
    refine List.mem_cons_of_mem _ (List.mem_filter.mpr ⟨List.mem_map.mpr ⟨q0, a, rfl⟩, ?_⟩)
    simp only [Bool.and_eq_true, decide_eq_true_eq, cv_cat] at b ⊢
    refine ⟨?_, ?_, b.2⟩
    · have := b.1
      simp; omega
    · have := b.1
      simp; omega
  · rcases List.mem_cons.mp h1 with rfl | h2
    · exact List.mem_cons_self
    · obtain ⟨a, b⟩ := List.mem_filter.mp h2
      refine List.mem_cons_of_mem _ (List.mem_filter.mpr ⟨List.mem_map.mpr ⟨q0, a, rfl⟩, ?_⟩)
      simp only [decide_eq_true_eq] at b
      simp only [Bool.and_eq_true, cv_cat]
      refine ⟨by simp; omega, by simp; omega, ?_⟩
      have : ¬ q0.1 + 1 = i := by omega
      simp [this]
/-- fewer locals -/
theorem e_sub (L' : List (Nat × Value)) (ks : List Nat) (hL : lv_pick L ks = L') (k : Ev G pc L' S M) : Ev G pc L S M := fun H locs ls hP hS hl => k H locs ls hP hS (by
  refine ⟨hl.1, hl.2.1, fun q hq => hl.2.2 q ?_⟩
  obtain ⟨q0, h0, rfl⟩ := List.mem_map.mp hq
  rw [← hL] at h0
  obtain ⟨i, -, hi⟩ := List.mem_filterMap.mp h0
  exact List.mem_map.mpr ⟨q0, List.mem_of_getElem? hi, rfl⟩)
theorem e_to {L' : List (Nat × Value)} {S' : List Value} {M' : MM} (hL : L = L') (hS : S = S') (hM : M = M') (k : Ev G pc L' S' M') : Ev G pc L S M := by
  subst hL; subst hS; subst hM; exact k

theorem e_iconst (g : Good G X n) {z : Int} (v : Int32) (d : decode X.2.1 pc = .ok (.iconst z, 1)) (hv : Int32.ofInt z = v) (k : Ev G (pc + 1) L (.int v :: S) M) : Ev G pc L (S) M := fun H locs ls hP hS hl => lv_iconst g.x g.b d hv (k H locs ls hP hS hl)
theorem e_bipush (g : Good G X n) {z : Int} (v : Int32) (d : decode X.2.1 pc = .ok (.bipush z, 2)) (hv : (Int8.ofInt z).toInt32 = v) (k : Ev G (pc + 2) L (.int v :: S) M) : Ev G pc L (S) M := fun H locs ls hP hS hl => lv_bipush g.x g.b d hv (k H locs ls hP hS hl)
theorem e_sipush (g : Good G X n) {z : Int} (v : Int32) (d : decode X.2.1 pc = .ok (.sipush z, 3)) (hv : (Int16.ofInt z).toInt32 = v) (k : Ev G (pc + 3) L (.int v :: S) M) : Ev G pc L (S) M := fun H locs ls hP hS hl => lv_sipush g.x g.b d hv (k H locs ls hP hS hl)
theorem e_lconst (g : Good G X n) {z : Fin 2} (v : Int64) (d : decode X.2.1 pc = .ok (.lconst z, 1)) (hv : Int64.ofNat (z : Nat) = v) (k : Ev G (pc + 1) L (.long v :: S) M) : Ev G pc L (S) M := fun H locs ls hP hS hl => lv_lconst g.x g.b d hv (k H locs ls hP hS hl)
theorem e_iload_n (g : Good G X n) {z : Fin 4} (j : Nat) {x : Int32} (d : decode X.2.1 pc = .ok (.iload_n z, 1)) (h : L[j]? = some ((z : Nat), .int x)) (k : Ev G (pc + 1) L (.int x :: S) M) : Ev G pc L S M := fun H locs ls hP hS hl => lv_iload_n g.x g.b d rfl (lv_atc hl j h) (k H locs ls hP hS hl)
theorem e_iload (g : Good G X n) {z : Nat} (j : Nat) {x : Int32} (d : decode X.2.1 pc = .ok (.iload z, 2)) (h : L[j]? = some (z, .int x)) (k : Ev G (pc + 2) L (.int x :: S) M) : Ev G pc L S M := fun H locs ls hP hS hl => lv_iload g.x g.b d (lv_atc hl j h) (k H locs ls hP hS hl)
theorem e_istore_n (g : Good G X n) {z : Fin 4} {x : Int32} (L' : List (Nat × Value)) (d : decode X.2.1 pc = .ok (.istore_n z, 1)) (hz : ((z : Nat) : Nat) < X.2.2.1) (hL : stL L (z : Nat) (.int x) = L') (k : Ev G (pc + 1) L' S M) : Ev G pc L (.int x :: S) M := fun H locs ls hP hS hl => lv_istore_n (lv' := _) g.x g.b d rfl hl (by rw [g.ml]; exact hz) rfl (fun ls1 h1 => k H locs ls1 hP hS (by rw [← hL]; exact st_has (v := .int x) h1))
theorem e_istore (g : Good G X n) {z : Nat} {x : Int32} (L' : List (Nat × Value)) (d : decode X.2.1 pc = .ok (.istore z, 2)) (hz : z < X.2.2.1) (hL : stL L z (.int x) = L') (k : Ev G (pc + 2) L' S M) : Ev G pc L (.int x :: S) M := fun H locs ls hP hS hl => lv_istore (lv' := _) g.x g.b d hl (by rw [g.ml]; exact hz) rfl (fun ls1 h1 => k H locs ls1 hP hS (by rw [← hL]; exact st_has (v := .int x) h1))
theorem e_lload_n (g : Good G X n) {z : Fin 4} (j : Nat) {x : Int64} (d : decode X.2.1 pc = .ok (.lload_n z, 1)) (h : L[j]? = some ((z : Nat), .long x)) (k : Ev G (pc + 1) L (.long x :: S) M) : Ev G pc L S M := fun H locs ls hP hS hl => lv_lload_n g.x g.b d rfl (lv_atc hl j h) (k H locs ls hP hS hl)
theorem e_lload (g : Good G X n) {z : Nat} (j : Nat) {x : Int64} (d : decode X.2.1 pc = .ok (.lload z, 2)) (h : L[j]? = some (z, .long x)) (k : Ev G (pc + 2) L (.long x :: S) M) : Ev G pc L S M := fun H locs ls hP hS hl => lv_lload g.x g.b d (lv_atc hl j h) (k H locs ls hP hS hl)
theorem e_lstore_n (g : Good G X n) {z : Fin 4} {x : Int64} (L' : List (Nat × Value)) (d : decode X.2.1 pc = .ok (.lstore_n z, 1)) (hz : ((z : Nat) + 1 : Nat) < X.2.2.1) (hL : stL2 L (z : Nat) (.long x) = L') (k : Ev G (pc + 1) L' S M) : Ev G pc L (.long x :: S) M := fun H locs ls hP hS hl => lv_lstore_n (lv' := _) g.x g.b d rfl hl (by rw [g.ml]; exact hz) rfl (fun ls1 h1 => k H locs ls1 hP hS (by rw [← hL]; exact st_has2 (v := .long x) h1))
theorem e_lstore (g : Good G X n) {z : Nat} {x : Int64} (L' : List (Nat × Value)) (d : decode X.2.1 pc = .ok (.lstore z, 2)) (hz : z + 1 < X.2.2.1) (hL : stL2 L z (.long x) = L') (k : Ev G (pc + 2) L' S M) : Ev G pc L (.long x :: S) M := fun H locs ls hP hS hl => lv_lstore (lv' := _) g.x g.b d hl (by rw [g.ml]; exact hz) rfl (fun ls1 h1 => k H locs ls1 hP hS (by rw [← hL]; exact st_has2 (v := .long x) h1))
theorem e_aload_n (g : Good G X n) {z : Fin 4} (j : Nat) {x : Nat} (d : decode X.2.1 pc = .ok (.aload_n z, 1)) (h : L[j]? = some ((z : Nat), .ref x)) (k : Ev G (pc + 1) L (.ref x :: S) M) : Ev G pc L S M := fun H locs ls hP hS hl => lv_aload_n g.x g.b d rfl (lv_atc hl j h) (k H locs ls hP hS hl)
theorem e_aload (g : Good G X n) {z : Nat} (j : Nat) {x : Nat} (d : decode X.2.1 pc = .ok (.aload z, 2)) (h : L[j]? = some (z, .ref x)) (k : Ev G (pc + 2) L (.ref x :: S) M) : Ev G pc L S M := fun H locs ls hP hS hl => lv_aload g.x g.b d (lv_atc hl j h) (k H locs ls hP hS hl)
theorem e_astore_n (g : Good G X n) {z : Fin 4} {x : Nat} (L' : List (Nat × Value)) (d : decode X.2.1 pc = .ok (.astore_n z, 1)) (hz : ((z : Nat) : Nat) < X.2.2.1) (hL : stL L (z : Nat) (.ref x) = L') (k : Ev G (pc + 1) L' S M) : Ev G pc L (.ref x :: S) M := fun H locs ls hP hS hl => lv_astore_n (lv' := _) g.x g.b d rfl hl (by rw [g.ml]; exact hz) rfl (fun ls1 h1 => k H locs ls1 hP hS (by rw [← hL]; exact st_has (v := .ref x) h1))
theorem e_astore (g : Good G X n) {z : Nat} {x : Nat} (L' : List (Nat × Value)) (d : decode X.2.1 pc = .ok (.astore z, 2)) (hz : z < X.2.2.1) (hL : stL L z (.ref x) = L') (k : Ev G (pc + 2) L' S M) : Ev G pc L (.ref x :: S) M := fun H locs ls hP hS hl => lv_astore (lv' := _) g.x g.b d hl (by rw [g.ml]; exact hz) rfl (fun ls1 h1 => k H locs ls1 hP hS (by rw [← hL]; exact st_has (v := .ref x) h1))
theorem e_iinc (g : Good G X n) {z : Nat} {dz : Int} (j : Nat) {x : Int32} (v : Int32) (L' : List (Nat × Value)) (d : decode X.2.1 pc = .ok (.iinc z dz, 3)) (h : L[j]? = some (z, .int x)) (hv : x + Int32.ofInt dz = v) (hz : z < X.2.2.1) (hL : stL L z (.int v) = L') (k : Ev G (pc + 3) L' S M) : Ev G pc L S M := fun H locs ls hP hS hl => lv_iinc (lv' := _) (k := j) g.x g.b d hl (cvL_at (v := .int x) h) hv (by rw [g.ml]; exact hz) rfl (fun ls1 h1 => k H locs ls1 hP hS (by rw [← hL]; exact st_has (v := .int v) h1))
theorem e_iadd (g : Good G X n) {x y : Int32} (d : decode X.2.1 pc = .ok (.iadd, 1)) (k : Ev G (pc + 1) L (.int (x + y) :: S) M) : Ev G pc L (.int y :: .int x :: S) M := fun H locs ls hP hS hl => lv_iadd g.x g.b d (k H locs ls hP hS hl)
theorem e_isub (g : Good G X n) {x y : Int32} (d : decode X.2.1 pc = .ok (.isub, 1)) (k : Ev G (pc + 1) L (.int (x - y) :: S) M) : Ev G pc L (.int y :: .int x :: S) M := fun H locs ls hP hS hl => lv_isub g.x g.b d (k H locs ls hP hS hl)
theorem e_imul (g : Good G X n) {x y : Int32} (d : decode X.2.1 pc = .ok (.imul, 1)) (k : Ev G (pc + 1) L (.int (x * y) :: S) M) : Ev G pc L (.int y :: .int x :: S) M := fun H locs ls hP hS hl => lv_imul g.x g.b d (k H locs ls hP hS hl)
theorem e_iand (g : Good G X n) {x y : Int32} (d : decode X.2.1 pc = .ok (.iand, 1)) (k : Ev G (pc + 1) L (.int (x &&& y) :: S) M) : Ev G pc L (.int y :: .int x :: S) M := fun H locs ls hP hS hl => lv_iand g.x g.b d (k H locs ls hP hS hl)
theorem e_ior (g : Good G X n) {x y : Int32} (d : decode X.2.1 pc = .ok (.ior, 1)) (k : Ev G (pc + 1) L (.int (x ||| y) :: S) M) : Ev G pc L (.int y :: .int x :: S) M := fun H locs ls hP hS hl => lv_ior g.x g.b d (k H locs ls hP hS hl)
theorem e_ixor (g : Good G X n) {x y : Int32} (d : decode X.2.1 pc = .ok (.ixor, 1)) (k : Ev G (pc + 1) L (.int (x ^^^ y) :: S) M) : Ev G pc L (.int y :: .int x :: S) M := fun H locs ls hP hS hl => lv_ixor g.x g.b d (k H locs ls hP hS hl)
theorem e_ishl (g : Good G X n) {x y : Int32} (d : decode X.2.1 pc = .ok (.ishl, 1)) (k : Ev G (pc + 1) L (.int (x <<< (y &&& 31)) :: S) M) : Ev G pc L (.int y :: .int x :: S) M := fun H locs ls hP hS hl => lv_ishl g.x g.b d (k H locs ls hP hS hl)
theorem e_ishr (g : Good G X n) {x y : Int32} (d : decode X.2.1 pc = .ok (.ishr, 1)) (k : Ev G (pc + 1) L (.int (x >>> (y &&& 31)) :: S) M) : Ev G pc L (.int y :: .int x :: S) M := fun H locs ls hP hS hl => lv_ishr g.x g.b d (k H locs ls hP hS hl)
theorem e_idiv (g : Good G X n) {x y : Int32} (d : decode X.2.1 pc = .ok (.idiv, 1)) (hne : ¬ y = 0) (k : Ev G (pc + 1) L (.int (x / y) :: S) M) : Ev G pc L (.int y :: .int x :: S) M := fun H locs ls hP hS hl => lv_idiv g.x g.b d hne (k H locs ls hP hS hl)
theorem e_irem (g : Good G X n) {x y : Int32} (d : decode X.2.1 pc = .ok (.irem, 1)) (hne : ¬ y = 0) (k : Ev G (pc + 1) L (.int (x - x / y * y) :: S) M) : Ev G pc L (.int y :: .int x :: S) M := fun H locs ls hP hS hl => lv_irem g.x g.b d hne (k H locs ls hP hS hl)
theorem e_iushr (g : Good G X n) {x y : Int32} (d : decode X.2.1 pc = .ok (.iushr, 1)) (k : Ev G (pc + 1) L (.int ((x.toUInt32 >>> (y.toUInt32 &&& Int32.toUInt32 31)).toInt32) :: S) M) : Ev G pc L (.int y :: .int x :: S) M := fun H locs ls hP hS hl => lv_iushr g.x g.b d rfl (k H locs ls hP hS hl)
theorem e_ladd (g : Good G X n) {x y : Int64} (d : decode X.2.1 pc = .ok (.ladd, 1)) (k : Ev G (pc + 1) L (.long (x + y) :: S) M) : Ev G pc L (.long y :: .long x :: S) M := fun H locs ls hP hS hl => lv_ladd g.x g.b d (k H locs ls hP hS hl)
theorem e_lsub (g : Good G X n) {x y : Int64} (d : decode X.2.1 pc = .ok (.lsub, 1)) (k : Ev G (pc + 1) L (.long (x - y) :: S) M) : Ev G pc L (.long y :: .long x :: S) M := fun H locs ls hP hS hl => lv_lsub g.x g.b d (k H locs ls hP hS hl)
theorem e_lmul (g : Good G X n) {x y : Int64} (d : decode X.2.1 pc = .ok (.lmul, 1)) (k : Ev G (pc + 1) L (.long (x * y) :: S) M) : Ev G pc L (.long y :: .long x :: S) M := fun H locs ls hP hS hl => lv_lmul g.x g.b d (k H locs ls hP hS hl)
theorem e_ldiv (g : Good G X n) {x y : Int64} (d : decode X.2.1 pc = .ok (.ldiv, 1)) (hne : ¬ y = 0) (k : Ev G (pc + 1) L (.long (x / y) :: S) M) : Ev G pc L (.long y :: .long x :: S) M := fun H locs ls hP hS hl => lv_ldiv g.x g.b d hne (k H locs ls hP hS hl)
theorem e_lcmp (g : Good G X n) {x y : Int64} (d : decode X.2.1 pc = .ok (.lcmp, 1)) (k : Ev G (pc + 1) L (.int (lg_cmp x y) :: S) M) : Ev G pc L (.long y :: .long x :: S) M := fun H locs ls hP hS hl => W.lcmp g.x g.b d (k H locs ls hP hS hl)
theorem e_i2l (g : Good G X n) {x : Int32} (d : decode X.2.1 pc = .ok (.i2l, 1)) (k : Ev G (pc + 1) L (.long x.toInt64 :: S) M) : Ev G pc L (.int x :: S) M := fun H locs ls hP hS hl => lv_i2l g.x g.b d rfl (k H locs ls hP hS hl)
theorem e_l2i (g : Good G X n) {x : Int64} (d : decode X.2.1 pc = .ok (.l2i, 1)) (k : Ev G (pc + 1) L (.int x.toInt32 :: S) M) : Ev G pc L (.long x :: S) M := fun H locs ls hP hS hl => lv_l2i g.x g.b d rfl (k H locs ls hP hS hl)
theorem e_i2b (g : Good G X n) {x : Int32} (d : decode X.2.1 pc = .ok (.i2b, 1)) (k : Ev G (pc + 1) L (.int x.toInt8.toInt32 :: S) M) : Ev G pc L (.int x :: S) M := fun H locs ls hP hS hl => lv_i2b g.x g.b d rfl (k H locs ls hP hS hl)
theorem e_i2s (g : Good G X n) {x : Int32} (d : decode X.2.1 pc = .ok (.i2s, 1)) (k : Ev G (pc + 1) L (.int x.toInt16.toInt32 :: S) M) : Ev G pc L (.int x :: S) M := fun H locs ls hP hS hl => lv_i2s g.x g.b d rfl (k H locs ls hP hS hl)
theorem e_dup (g : Good G X n) {a : Value} (d : decode X.2.1 pc = .ok (.dup, 1)) (ha : a.category = 1) (k : Ev G (pc + 1) L (a :: a :: S) M) : Ev G pc L (a :: S) M := fun H locs ls hP hS hl => lv_dup g.x g.b d (by rw [cv_cat]; exact ha) (k H locs ls hP hS hl)
theorem e_pop (g : Good G X n) {a : Value} (d : decode X.2.1 pc = .ok (.pop, 1)) (ha : a.category = 1) (k : Ev G (pc + 1) L (S) M) : Ev G pc L (a :: S) M := fun H locs ls hP hS hl => lv_pop g.x g.b d (by rw [cv_cat]; exact ha) (k H locs ls hP hS hl)
theorem e_dup_x1 (g : Good G X n) {a b : Value} (d : decode X.2.1 pc = .ok (.dup_x1, 1)) (ha : a.category = 1) (hb : b.category = 1) (k : Ev G (pc + 1) L (a :: b :: a :: S) M) : Ev G pc L (a :: b :: S) M := fun H locs ls hP hS hl => lv_dup_x1 g.x g.b d (by rw [cv_cat]; exact ha) (by rw [cv_cat]; exact hb) (k H locs ls hP hS hl)
theorem e_dup2 (g : Good G X n) {a b : Value} (d : decode X.2.1 pc = .ok (.dup2, 1)) (ha : a.category = 1) (hb : b.category = 1) (k : Ev G (pc + 1) L (a :: b :: a :: b :: S) M) : Ev G pc L (a :: b :: S) M := fun H locs ls hP hS hl => lv_dup2_11 g.x g.b d (by rw [cv_cat]; exact ha) (by rw [cv_cat]; exact hb) (k H locs ls hP hS hl)
theorem e_if_eq (g : Good G X n) {x : Int32} {z : Int} (tgt : Nat) (d : decode X.2.1 pc = .ok (.ifCond .eq z, 3)) (ht : (pc : Int) + z = (tgt : Int)) (kt : x = 0 → Ev G tgt L S M) (kf : ¬ x = 0 → Ev G (pc + 3) L S M) : Ev G pc L (.int x :: S) M := fun H locs ls hP hS hl => lv_if_eq g.x g.b d ht (fun c => kt c H locs ls hP hS hl) (fun c => kf c H locs ls hP hS hl)
theorem e_icmp_eq (g : Good G X n) {x y : Int32} {z : Int} (tgt : Nat) (d : decode X.2.1 pc = .ok (.if_icmp .eq z, 3)) (ht : (pc : Int) + z = (tgt : Int)) (kt : x = y → Ev G tgt L S M) (kf : ¬ x = y → Ev G (pc + 3) L S M) : Ev G pc L (.int y :: .int x :: S) M := fun H locs ls hP hS hl => lv_icmp_eq g.x g.b d ht (fun c => kt c H locs ls hP hS hl) (fun c => kf c H locs ls hP hS hl)
theorem e_if_ne (g : Good G X n) {x : Int32} {z : Int} (tgt : Nat) (d : decode X.2.1 pc = .ok (.ifCond .ne z, 3)) (ht : (pc : Int) + z = (tgt : Int)) (kt : ¬ x = 0 → Ev G tgt L S M) (kf : x = 0 → Ev G (pc + 3) L S M) : Ev G pc L (.int x :: S) M := fun H locs ls hP hS hl => lv_if_ne g.x g.b d ht (fun c => kt c H locs ls hP hS hl) (fun c => kf c H locs ls hP hS hl)
theorem e_icmp_ne (g : Good G X n) {x y : Int32} {z : Int} (tgt : Nat) (d : decode X.2.1 pc = .ok (.if_icmp .ne z, 3)) (ht : (pc : Int) + z = (tgt : Int)) (kt : ¬ x = y → Ev G tgt L S M) (kf : x = y → Ev G (pc + 3) L S M) : Ev G pc L (.int y :: .int x :: S) M := fun H locs ls hP hS hl => lv_icmp_ne g.x g.b d ht (fun c => kt c H locs ls hP hS hl) (fun c => kf c H locs ls hP hS hl)
theorem e_if_lt (g : Good G X n) {x : Int32} {z : Int} (tgt : Nat) (d : decode X.2.1 pc = .ok (.ifCond .lt z, 3)) (ht : (pc : Int) + z = (tgt : Int)) (kt : x < 0 → Ev G tgt L S M) (kf : ¬ x < 0 → Ev G (pc + 3) L S M) : Ev G pc L (.int x :: S) M := fun H locs ls hP hS hl => lv_if_lt g.x g.b d ht (fun c => kt c H locs ls hP hS hl) (fun c => kf c H locs ls hP hS hl)
theorem e_icmp_lt (g : Good G X n) {x y : Int32} {z : Int} (tgt : Nat) (d : decode X.2.1 pc = .ok (.if_icmp .lt z, 3)) (ht : (pc : Int) + z = (tgt : Int)) (kt : x < y → Ev G tgt L S M) (kf : ¬ x < y → Ev G (pc + 3) L S M) : Ev G pc L (.int y :: .int x :: S) M := fun H locs ls hP hS hl => lv_icmp_lt g.x g.b d ht (fun c => kt c H locs ls hP hS hl) (fun c => kf c H locs ls hP hS hl)
theorem e_if_ge (g : Good G X n) {x : Int32} {z : Int} (tgt : Nat) (d : decode X.2.1 pc = .ok (.ifCond .ge z, 3)) (ht : (pc : Int) + z = (tgt : Int)) (kt : 0 ≤ x → Ev G tgt L S M) (kf : ¬ 0 ≤ x → Ev G (pc + 3) L S M) : Ev G pc L (.int x :: S) M := fun H locs ls hP hS hl => lv_if_ge g.x g.b d ht (fun c => kt c H locs ls hP hS hl) (fun c => kf c H locs ls hP hS hl)
theorem e_icmp_ge (g : Good G X n) {x y : Int32} {z : Int} (tgt : Nat) (d : decode X.2.1 pc = .ok (.if_icmp .ge z, 3)) (ht : (pc : Int) + z = (tgt : Int)) (kt : y ≤ x → Ev G tgt L S M) (kf : ¬ y ≤ x → Ev G (pc + 3) L S M) : Ev G pc L (.int y :: .int x :: S) M := fun H locs ls hP hS hl => lv_icmp_ge g.x g.b d ht (fun c => kt c H locs ls hP hS hl) (fun c => kf c H locs ls hP hS hl)
theorem e_if_gt (g : Good G X n) {x : Int32} {z : Int} (tgt : Nat) (d : decode X.2.1 pc = .ok (.ifCond .gt z, 3)) (ht : (pc : Int) + z = (tgt : Int)) (kt : 0 < x → Ev G tgt L S M) (kf : ¬ 0 < x → Ev G (pc + 3) L S M) : Ev G pc L (.int x :: S) M := fun H locs ls hP hS hl => lv_if_gt g.x g.b d ht (fun c => kt c H locs ls hP hS hl) (fun c => kf c H locs ls hP hS hl)
theorem e_icmp_gt (g : Good G X n) {x y : Int32} {z : Int} (tgt : Nat) (d : decode X.2.1 pc = .ok (.if_icmp .gt z, 3)) (ht : (pc : Int) + z = (tgt : Int)) (kt : y < x → Ev G tgt L S M) (kf : ¬ y < x → Ev G (pc + 3) L S M) : Ev G pc L (.int y :: .int x :: S) M := fun H locs ls hP hS hl => lv_icmp_gt g.x g.b d ht (fun c => kt c H locs ls hP hS hl) (fun c => kf c H locs ls hP hS hl)
theorem e_if_le (g : Good G X n) {x : Int32} {z : Int} (tgt : Nat) (d : decode X.2.1 pc = .ok (.ifCond .le z, 3)) (ht : (pc : Int) + z = (tgt : Int)) (kt : x ≤ 0 → Ev G tgt L S M) (kf : ¬ x ≤ 0 → Ev G (pc + 3) L S M) : Ev G pc L (.int x :: S) M := fun H locs ls hP hS hl => lv_if_le g.x g.b d ht (fun c => kt c H locs ls hP hS hl) (fun c => kf c H locs ls hP hS hl)
theorem e_icmp_le (g : Good G X n) {x y : Int32} {z : Int} (tgt : Nat) (d : decode X.2.1 pc = .ok (.if_icmp .le z, 3)) (ht : (pc : Int) + z = (tgt : Int)) (kt : x ≤ y → Ev G tgt L S M) (kf : ¬ x ≤ y → Ev G (pc + 3) L S M) : Ev G pc L (.int y :: .int x :: S) M := fun H locs ls hP hS hl => lv_icmp_le g.x g.b d ht (fun c => kt c H locs ls hP hS hl) (fun c => kf c H locs ls hP hS hl)
theorem e_goto (g : Good G X n) {z : Int} (tgt : Nat) (d : decode X.2.1 pc = .ok (.goto z, 3)) (ht : (pc : Int) + z = (tgt : Int)) (k : Ev G tgt L S M) : Ev G pc L S M := fun H locs ls hP hS hl => lv_goto g.x g.b d ht (k H locs ls hP hS hl)
theorem e_tabOut (g : Good G X n) {df lo hi : Int} {offs : Array Int} {len : Nat} {x : Int32} (tgt : Nat) (d : decode X.2.1 pc = .ok (.tableswitch df lo hi offs, len)) (h : x.toInt < lo ∨ hi < x.toInt) (ht : (pc : Int) + df = (tgt : Int)) (k : Ev G tgt L S M) : Ev G pc L (.int x :: S) M := fun H locs ls hP hS hl => lv_tableOut g.x g.b d h ht (k H locs ls hP hS hl)
theorem e_tabIn (g : Good G X n) {df lo hi : Int} {offs : Array Int} {len : Nat} {x : Int32} {off : Int} (tgt : Nat) (d : decode X.2.1 pc = .ok (.tableswitch df lo hi offs, len)) (h1 : ¬ x.toInt < lo) (h2 : ¬ hi < x.toInt) (ho : offs[(x.toInt - lo).toNat]? = some off) (ht : (pc : Int) + off = (tgt : Int)) (k : Ev G tgt L S M) : Ev G pc L (.int x :: S) M := fun H locs ls hP hS hl => lv_tableIn g.x g.b d h1 h2 ho ht (k H locs ls hP hS hl)
theorem e_ldc (g : Good G X n) {i : Nat} (v : Int32) (w : Cond.constant X.1.cls i v ∈ TB) (d : decode X.2.1 pc = .ok (.ldc i, 2)) (k : Ev G (pc + 2) L (.int v :: S) M) : Ev G pc L S M := fun H locs ls hP hS hl => lv_ldc g.x g.b g.own (g.ts _ w) d (k H locs ls hP hS hl)
theorem e_ldcw (g : Good G X n) {i : Nat} (v : Int32) (w : Cond.constant X.1.cls i v ∈ TB) (d : decode X.2.1 pc = .ok (.ldc_w i, 3)) (k : Ev G (pc + 3) L (.int v :: S) M) : Ev G pc L S M := fun H locs ls hP hS hl => lv_ldcw g.x g.b g.own (g.ts _ w) d (k H locs ls hP hS hl)
theorem e_ldc2 (g : Good G X n) {i : Nat} (v : Int64) (w : Cond.constantLong X.1.cls i v ∈ TB) (d : decode X.2.1 pc = .ok (.ldc2_w i, 3)) (k : Ev G (pc + 3) L (.long v :: S) M) : Ev G pc L S M := fun H locs ls hP hS hl => lv_ldc2 g.x g.b g.own (g.ts _ w) d (k H locs ls hP hS hl)
/-! fields -/
def CF (ci : Nat) (q : vw_C) : Prop := vwCl[ci]? = some q ∧ (∀ w ∈ u_ws q.1 q.2.1 q.2.2, w ∈ TB) ∧ (∃ ty0 : Nat → FieldType, ∀ k, k < q.2.2 → parseFieldDescriptor (q.2.1 k).2.2.1 = some (ty0 k)) ∧ (∀ a, a < q.2.2 → ∀ b, b < q.2.2 → a ≠ b → (q.2.1 a).2.1 ≠ (q.2.1 b).2.1)
/-- entry i of class own is field j of class ci (declared there) -/
def FL (own : String) (i ci j : Nat) : Prop := ∃ q : vw_C, CF ci q ∧ j < q.2.2 ∧ (q.2.1 j).1 = q.1 ∧ (Cond.fieldLink own i q.1 (q.2.1 j).2.1 (q.2.1 j).2.2.1 ∈ TB ∨ ∃ host : String, Cond.fieldLinkNest own i q.1 (q.2.1 j).2.1 (q.2.1 j).2.2.1 host ∈ NB)
def FW (own : String) (i ci j : Nat) (ty : FieldType) : Prop := FL own i ci j ∧ ∀ q : vw_C, vwCl[ci]? = some q → (q.2.1 j).2.2.2 = false ∧ parseFieldDescriptor (q.2.1 j).2.2.1 = some ty
theorem ce_obj {ad : Nat → Nat} {cA : Nat → ClassId} {M : MM} {k ci c0 : Nat} {fk : List Nat} (h : shp k = (0, ci, c0, fk)) : ce ad cA M k = .inr (ci, fvals ad M k 0 fk) := by simp [ce, h]
theorem ce_int {ad : Nat → Nat} {cA : Nat → ClassId} {M : MM} {k t N : Nat} {l : List Nat} (h : shp k = (1, t, N, l)) : ce ad cA M k = .inl (cA 0, N, .inl (M.1 k)) := by simp [ce, h]
theorem ce_bool {ad : Nat → Nat} {cA : Nat → ClassId} {M : MM} {k t N : Nat} {l : List Nat} (h : shp k = (2, t, N, l)) : ce ad cA M k = .inl (cA 1, N, .inl (M.1 k)) := by simp [ce, h]
theorem ce_refs {ad : Nat → Nat} {cA : Nat → ClassId} {M : MM} {k t N b : Nat} (h : shp k = (3, t, N, [b])) : ce ad cA M k = .inl (cA 2, N, .inr (.inr (.inr (.inr (fun j => if j < N then some (ad (b + j)) else none))))) := by simp [ce, h]
theorem e_get (g : Good G X n) {i k ci j c0 c : Nat} {fk : List Nat} (fl : FL X.1.cls i ci j) (hs : shp k = (0, ci, c0, fk)) (hj : fk[j]? = some c) (d : decode X.2.1 pc = .ok (.getfield i, 3)) (v : Value) (hv : ∀ ad : Nat → Nat, fval ad M k j c = cv ad v) (kk : Ev G (pc + 3) L (v :: S) M) : Ev G pc L (.ref k :: S) M := by
  intro H locs ls hP hS hl
  obtain ⟨q, ⟨hq, hin, -, -⟩, hlt, hdc, hk⟩ := fl
  have he := wl_at (gad G) (gcA G) M (shp_lt hs (by simp))
  rw [ce_obj hs] at he
  have hf : (fvals (gad G) M k 0 fk)[j]? = some (cv (gad G) v) := by
    have := fvals_get (gad G) M k fk 0 j c hj
    rw [Nat.zero_add, hv] at this
    exact this
  rcases hk with hk | ⟨host, hk⟩
  · exact va_get g.x g.b g.ts hin g.own g.K hP k he hq j hlt (g.ts _ hk) (fun x hx => by rw [hdc] at hx; exact hx) hf d (kk H locs ls hP hS hl)
  · exact va_getN g.x g.b g.ts hin g.own g.K hP k he hq j hlt (va_Nw.use rfl (g.nb _ hk)) (fun x hx => by rw [hdc] at hx; exact hx) hf d (kk H locs ls hP hS hl)
theorem e_getI (g : Good G X n) {i k ci j c0 : Nat} {fk : List Nat} (fl : FL X.1.cls i ci j) (hs : shp k = (0, ci, c0, fk)) (hj : fk[j]? = some 0) (d : decode X.2.1 pc = .ok (.getfield i, 3)) (kk : Ev G (pc + 3) L (.int (M.1 k j) :: S) M) : Ev G pc L (.ref k :: S) M := e_get g fl hs hj d (.int (M.1 k j)) (fun _ => rfl) kk
theorem e_getL (g : Good G X n) {i k ci j c0 : Nat} {fk : List Nat} (fl : FL X.1.cls i ci j) (hs : shp k = (0, ci, c0, fk)) (hj : fk[j]? = some 1) (d : decode X.2.1 pc = .ok (.getfield i, 3)) (kk : Ev G (pc + 3) L (.long (M.2 k j) :: S) M) : Ev G pc L (.ref k :: S) M := e_get g fl hs hj d (.long (M.2 k j)) (fun _ => rfl) kk
theorem e_getR (g : Good G X n) {i k ci j c0 : Nat} {fk : List Nat} (p : Nat) (fl : FL X.1.cls i ci j) (hs : shp k = (0, ci, c0, fk)) (hj : fk[j]? = some (p + 2)) (d : decode X.2.1 pc = .ok (.getfield i, 3)) (kk : Ev G (pc + 3) L (.ref p :: S) M) : Ev G pc L (.ref k :: S) M := e_get g fl hs hj d (.ref p) (fun ad => by simp [fval, cv]) kk
theorem ui_off {M : MM} {k j : Nat} {v : Int32} {a : Nat} (h : a ≠ k) : M.1 a = (ui M k j v).1 a := by funext b; simp [ui, h]
theorem ul_off {M : MM} {k j : Nat} {v : Int64} {a : Nat} (h : a ≠ k) : M.2 a = (ul M k j v).2 a := by funext b; simp [ul, h]
theorem e_put (g : Good G X n) {i k ci j c0 c : Nat} {fk : List Nat} {ty : FieldType} {v : Value} {M' : MM} (fw : FW X.1.cls i ci j ty) (hs : shp k = (0, ci, c0, fk)) (hj : fk[j]? = some c) (hn : narrow ty v = v) (hfit : fits ty v = true) (hv : ∀ ad : Nat → Nat, fval ad M' k j c = v) (hcv : ∀ ad : Nat → Nat, cv ad v = v)
    (h1 : ∀ a : Nat, a ≠ k → M.1 a = M'.1 a) (h2 : ∀ a : Nat, a ≠ k → M.2 a = M'.2 a) (h3 : ∀ a : Nat, a ≠ j → M.1 k a = M'.1 k a) (h4 : ∀ a : Nat, a ≠ j → M.2 k a = M'.2 k a) (d : decode X.2.1 pc = .ok (.putfield i, 3)) (kk : Ev G (pc + 3) L S M') : Ev G pc L (v :: .ref k :: S) M := by
  intro H locs ls hP hS hl
  obtain ⟨⟨q, ⟨hq, hin, ⟨ty0, hty⟩, hnm⟩, hlt, hdc, hk⟩, hw⟩ := fw
  obtain ⟨hfin, hd⟩ := hw q hq
  have he := wl_at (gad G) (gcA G) M (shp_lt hs (by simp))
  rw [ce_obj hs] at he
  have hlen : j < (fvals (gad G) M k 0 fk).length := by
    rw [fvals_len]
    exact (List.getElem?_eq_some_iff.mp hj).1
  have hset : (wl (gad G) (gcA G) M).set k (gad G k, .inr (ci, (fvals (gad G) M k 0 fk).set j v)) = wl (gad G) (gcA G) M' := by
    refine wl_set (gad G) (gcA G) ?_ h1 h2
    rw [ce_obj hs, fvals_set (gad G) v fk 0 j c hj (by rw [Nat.zero_add]; exact hv _) (by rw [Nat.zero_add]; exact h3) (by rw [Nat.zero_add]; exact h4)]
  have goal : ∀ (H1 : Heap) (locs1 : List Loc), va_P (gD G) vwCl ((wl (gad G) (gcA G) M).set k (gad G k, .inr (ci, (fvals (gad G) M k 0 fk).set j v))) H1 → va_D (gA G) ((wl (gad G) (gcA G) M).set k (gad G k, .inr (ci, (fvals (gad G) M k 0 fk).set j v))) → va_S (gA G) (gs G).heap H1 locs1 → W (gp G) G.1.1 (ge G) (gR G) (gs G) (gm G) (gargs G) (gbelow G) (gmeth G) (gc G) H1 locs1 (gcl G) (gsl G) (gQ G) (F0 (gm G) (pc + 3) ls (S.map (cv (gad G)))) := by
    intro H1 locs1 hP1 _ hS1
    rw [hset] at hP1
    exact kk H1 locs1 ls hP1 hS1 hl
  have e0 : (v :: .ref k :: S).map (cv (gad G)) = v :: .ref (gad G k) :: S.map (cv (gad G)) := by
    show cv (gad G) v :: _ = _
    rw [hcv]
    rfl
  rw [e0]
  rcases hk with hk | ⟨host, hk⟩
  · exact va_put g.x g.b g.ts hin ty0 hty hnm g.own g.K hP (g.D M) hS k he hq j hlt (g.ts _ hk) (fun x hx => by rw [hdc] at hx; exact hx) hfin hd hn hfit hlen d goal
  · exact va_putN g.x g.b g.ts hin ty0 hty hnm g.own g.K hP (g.D M) hS k he hq j hlt (va_Nw.use rfl (g.nb _ hk)) (fun x hx => by rw [hdc] at hx; exact hx) hfin hd hn hfit hlen d goal
theorem e_putI (g : Good G X n) {i k ci j c0 : Nat} {fk : List Nat} {v : Int32} (fw : FW X.1.cls i ci j .int) (hs : shp k = (0, ci, c0, fk)) (hj : fk[j]? = some 0) (d : decode X.2.1 pc = .ok (.putfield i, 3)) (kk : Ev G (pc + 3) L S (ui M k j v)) : Ev G pc L (.int v :: .ref k :: S) M :=
  e_put (M' := ui M k j v) g fw hs hj rfl rfl (fun _ => by simp [fval, ui]) (fun _ => rfl) (fun _ h => ui_off h) (fun _ _ => rfl) (fun a h => by simp [ui, h]) (fun _ _ => rfl) d kk
theorem e_putL (g : Good G X n) {i k ci j c0 : Nat} {fk : List Nat} {v : Int64} (fw : FW X.1.cls i ci j .long) (hs : shp k = (0, ci, c0, fk)) (hj : fk[j]? = some 1) (d : decode X.2.1 pc = .ok (.putfield i, 3)) (kk : Ev G (pc + 3) L S (ul M k j v)) : Ev G pc L (.long v :: .ref k :: S) M :=
  e_put (M' := ul M k j v) g fw hs hj rfl rfl (fun _ => by simp [fval, ul]) (fun _ => rfl) (fun _ _ => rfl) (fun _ h => ul_off h) (fun _ _ => rfl) (fun a h => by simp [ul, h]) d kk
/-! arrays -/
theorem e_iald (g : Good G X n) {k t N : Nat} {l : List Nat} {i : Int32} (hs : shp k = (1, t, N, l)) (hi : vp_in i N) (d : decode X.2.1 pc = .ok (.iaload, 1)) (kk : Ev G (pc + 1) L (.int (M.1 k i.toNatClampNeg) :: S) M) : Ev G pc L (.int i :: .ref k :: S) M := by
  intro H locs ls hP hS hl
  have he := wl_at (gad G) (gcA G) M (shp_lt hs (by simp))
  rw [ce_int hs] at he
  exact va_iald g.x g.b g.K hP k 0 he rfl hi d (kk H locs ls hP hS hl)
theorem e_zald (g : Good G X n) {k t N : Nat} {l : List Nat} {i : Int32} (hs : shp k = (2, t, N, l)) (hi : vp_in i N) (d : decode X.2.1 pc = .ok (.baload, 1)) (kk : Ev G (pc + 1) L (.int (M.1 k i.toNatClampNeg) :: S) M) : Ev G pc L (.int i :: .ref k :: S) M := by
  intro H locs ls hP hS hl
  have he := wl_at (gad G) (gcA G) M (shp_lt hs (by simp))
  rw [ce_bool hs] at he
  exact va_zald g.x g.b g.K hP k 1 he rfl hi d (kk H locs ls hP hS hl)
theorem e_iast (g : Good G X n) {k t N : Nat} {l : List Nat} {i x : Int32} (hs : shp k = (1, t, N, l)) (hi : vp_in i N) (d : decode X.2.1 pc = .ok (.iastore, 1)) (kk : Ev G (pc + 1) L S (ui M k i.toNatClampNeg x)) : Ev G pc L (.int x :: .int i :: .ref k :: S) M := by
  intro H locs ls hP hS hl
  have he := wl_at (gad G) (gcA G) M (shp_lt hs (by simp))
  rw [ce_int hs] at he
  refine va_iast g.x g.b g.K hP (g.D M) hS k 0 he rfl hi d (fun H1 locs1 hP1 _ hS1 => kk H1 locs1 ls ?_ hS1 hl)
  rw [wl_set (M' := ui M k i.toNatClampNeg x) (gad G) (gcA G) ?_ (fun _ h => ui_off h) (fun _ _ => rfl)] at hP1
  · exact hP1
  · rw [ce_int hs]
    congr 4
    funext b
    simp [ui, upd]
theorem e_zast (g : Good G X n) {k t N : Nat} {l : List Nat} {i x : Int32} (hs : shp k = (2, t, N, l)) (hi : vp_in i N) (d : decode X.2.1 pc = .ok (.bastore, 1)) (kk : Ev G (pc + 1) L S (ui M k i.toNatClampNeg (vp_nar .boolean x))) : Ev G pc L (.int x :: .int i :: .ref k :: S) M := by
  intro H locs ls hP hS hl
  have he := wl_at (gad G) (gcA G) M (shp_lt hs (by simp))
  rw [ce_bool hs] at he
  refine va_zast g.x g.b g.K hP (g.D M) hS k 1 he rfl hi d (fun H1 locs1 hP1 _ hS1 => kk H1 locs1 ls ?_ hS1 hl)
  rw [wl_set (M' := ui M k i.toNatClampNeg (vp_nar .boolean x)) (gad G) (gcA G) ?_ (fun _ h => ui_off h) (fun _ _ => rfl)] at hP1
  · exact hP1
  · rw [ce_bool hs]
    congr 4
    funext b
    simp [ui, upd]
theorem e_aald (g : Good G X n) {k t N b : Nat} {i : Int32} (hs : shp k = (3, t, N, [b])) (hi : vp_in i N) (d : decode X.2.1 pc = .ok (.aaload, 1)) (kk : Ev G (pc + 1) L (.ref (b + i.toNatClampNeg) :: S) M) : Ev G pc L (.int i :: .ref k :: S) M := by
  intro H locs ls hP hS hl
  have he := wl_at (gad G) (gcA G) M (shp_lt hs (by simp))
  rw [ce_refs hs] at he
  have hc := hP k _ he
  have hlt : i.toNatClampNeg < N := Nat.not_le.mp fun q => hi (Or.inr q)
  have hc2 : H[gad G k]? = some (arrV (gcA G 2) N (fun j => va_rf (if j < N then some (gad G (b + j)) else none))) := hc
  refine W.aald (ty := .array .int) (v := .ref (gad G (b + i.toNatClampNeg))) g.x g.b hc2 ((g.K.2 2 _ rfl).1 N _) rfl (fun q => by cases q) (by show ¬ (i < 0 ∨ (arrV _ _ _).slots.size ≤ _); rw [arrV_size]; exact hi) ?_ rfl rfl d (kk H locs ls hP hS hl)
  show (arrV _ _ _).slots[_]? = _
  rw [arrV_read _ _ hlt, if_pos hlt]
  rfl
theorem e_ialen (g : Good G X n) {k t N : Nat} {l : List Nat} (hs : shp k = (1, t, N, l)) (d : decode X.2.1 pc = .ok (.arraylength, 1)) (kk : Ev G (pc + 1) L (.int (nI N) :: S) M) : Ev G pc L (.ref k :: S) M := by
  intro H locs ls hP hS hl
  have he := wl_at (gad G) (gcA G) M (shp_lt hs (by simp))
  rw [ce_int hs] at he
  exact va_alen g.x g.b g.K hP k 0 he (ty := .int) rfl rfl d (kk H locs ls hP hS hl)
end EV

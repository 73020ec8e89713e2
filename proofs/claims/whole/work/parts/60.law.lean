/-! the law, from its loop's head on -/
abbrev mL_law : MI := (yL_law, cL_law, 4, some .boolean)
def LX (G : GC) (L : Nat) (xs : Nat → Int32) : Prop := va_X (gad G 107) L xs (gs G) (gs G).heap ∧ gad G 107 < (gs G).heap.size ∧ ¬ gA G (gad G 107) ∧ ∀ (v3 : Int32) (M : MM), Ev G 1020 [(0, .ref 107), (1, .ref 0), (2, .ref 72), (3, .int v3)] [.int 1] M
section law
variable {G : GC} {X : MI} {n : Nat} {pc : Nat} {Ls : List (Nat × Value)} {S : List Value} {M : MM} {L0 : Nat} {xs : Nat → Int32}
theorem e_sld (g : Good G X n) (lx : LX G L0 xs) {i : Int32} (hi : vp_in i L0) (d : decode X.2.1 pc = .ok (.iaload, 1)) (kk : Ev G (pc + 1) Ls (.int (xs i.toNatClampNeg) :: S) M) : Ev G pc Ls (.int i :: .ref 107 :: S) M := fun H locs ls hP hS hl => va_sld g.x g.b lx.1 lx.2.1 lx.2.2.1 hS hi d (kk H locs ls hP hS hl)
theorem e_slen (g : Good G X n) (lx : LX G L0 xs) (d : decode X.2.1 pc = .ok (.arraylength, 1)) (kk : Ev G (pc + 1) Ls (.int (nI L0) :: S) M) : Ev G pc Ls (.ref 107 :: S) M := fun H locs ls hP hS hl => va_slen g.x g.b lx.1 lx.2.1 lx.2.2.1 hS d (kk H locs ls hP hS hl)
end law
theorem kb_31 : (Int8.ofInt (31)).toInt32 = 31 := by decide +kernel
/-- at the loop's head -/
def At_L_law_18 (G : GC) (v3 : Int32) (M : MM) : Prop := Ev G 18 [(0, .ref 107), (1, .ref 0), (2, .ref 72), (3, .int v3)] [] M
/-- at the cut 140 of L_law -/
def At_L_law_140 (G : GC)  (v3 : Int32)  (M : MM) : Prop := Ev G 140 [(0, .ref 107), (1, .ref 0), (2, .ref 72), (3, .int v3)] [] M
/-- at the cut 183 of L_law -/
def At_L_law_183 (G : GC)  (v3 : Int32)  (M : MM) : Prop := Ev G 183 [(0, .ref 107), (1, .ref 0), (2, .ref 72), (3, .int v3)] [] M
/-- at the cut 226 of L_law -/
def At_L_law_226 (G : GC)  (v3 : Int32)  (M : MM) : Prop := Ev G 226 [(0, .ref 107), (1, .ref 0), (2, .ref 72), (3, .int v3)] [] M
/-- at the cut 259 of L_law -/
def At_L_law_259 (G : GC)  (v3 : Int32)  (M : MM) : Prop := Ev G 259 [(0, .ref 107), (1, .ref 0), (2, .ref 72), (3, .int v3)] [] M
/-- at the cut 312 of L_law -/
def At_L_law_312 (G : GC)  (v3 : Int32)  (M : MM) : Prop := Ev G 312 [(0, .ref 107), (1, .ref 0), (2, .ref 72), (3, .int v3)] [] M
/-- at the cut 375 of L_law -/
def At_L_law_375 (G : GC)  (v3 : Int32)  (M : MM) : Prop := Ev G 375 [(0, .ref 107), (1, .ref 0), (2, .ref 72), (3, .int v3)] [] M
/-- at the cut 408 of L_law -/
def At_L_law_408 (G : GC)  (v3 : Int32)  (M : MM) : Prop := Ev G 408 [(0, .ref 107), (1, .ref 0), (2, .ref 72), (3, .int v3)] [] M
/-- at the cut 457 of L_law -/
def At_L_law_457 (G : GC)  (v3 : Int32)  (M : MM) : Prop := Ev G 457 [(0, .ref 107), (1, .ref 0), (2, .ref 72), (3, .int v3)] [] M
/-- at the cut 506 of L_law -/
def At_L_law_506 (G : GC)  (v3 : Int32)  (M : MM) : Prop := Ev G 506 [(0, .ref 107), (1, .ref 0), (2, .ref 72), (3, .int v3)] [] M
/-- at the cut 539 of L_law -/
def At_L_law_539 (G : GC)  (v3 : Int32)  (M : MM) : Prop := Ev G 539 [(0, .ref 107), (1, .ref 0), (2, .ref 72), (3, .int v3)] [] M
/-- at the cut 572 of L_law -/
def At_L_law_572 (G : GC)  (v3 : Int32)  (M : MM) : Prop := Ev G 572 [(0, .ref 107), (1, .ref 0), (2, .ref 72), (3, .int v3)] [] M
/-- at the cut 595 of L_law -/
def At_L_law_595 (G : GC)  (v3 : Int32)  (M : MM) : Prop := Ev G 595 [(0, .ref 107), (1, .ref 0), (2, .ref 72), (3, .int v3)] [] M
/-- at the cut 628 of L_law -/
def At_L_law_628 (G : GC)  (v3 : Int32)  (M : MM) : Prop := Ev G 628 [(0, .ref 107), (1, .ref 0), (2, .ref 72), (3, .int v3)] [] M
/-- at the cut 641 of L_law -/
def At_L_law_641 (G : GC)  (v3 : Int32)  (M : MM) : Prop := Ev G 641 [(0, .ref 107), (1, .ref 0), (2, .ref 72), (3, .int v3)] [] M
/-- at the cut 684 of L_law -/
def At_L_law_684 (G : GC)  (v3 : Int32)  (M : MM) : Prop := Ev G 684 [(0, .ref 107), (1, .ref 0), (2, .ref 72), (3, .int v3)] [] M
/-- at the cut 707 of L_law -/
def At_L_law_707 (G : GC)  (v3 : Int32)  (M : MM) : Prop := Ev G 707 [(0, .ref 107), (1, .ref 0), (2, .ref 72), (3, .int v3)] [] M
/-- at the cut 741 of L_law -/
def At_L_law_741 (G : GC)  (v3 : Int32)  (M : MM) : Prop := Ev G 741 [(0, .ref 107), (1, .ref 0), (2, .ref 72), (3, .int v3)] [] M
/-- at the cut 785 of L_law -/
def At_L_law_785 (G : GC)  (v3 : Int32)  (M : MM) : Prop := Ev G 785 [(0, .ref 107), (1, .ref 0), (2, .ref 72), (3, .int v3)] [] M
/-- at the cut 808 of L_law -/
def At_L_law_808 (G : GC)  (v3 : Int32)  (M : MM) : Prop := Ev G 808 [(0, .ref 107), (1, .ref 0), (2, .ref 72), (3, .int v3)] [] M
/-- at the cut 851 of L_law -/
def At_L_law_851 (G : GC)  (v3 : Int32)  (M : MM) : Prop := Ev G 851 [(0, .ref 107), (1, .ref 0), (2, .ref 72), (3, .int v3)] [] M
/-- at the cut 894 of L_law -/
def At_L_law_894 (G : GC)  (v3 : Int32)  (M : MM) : Prop := Ev G 894 [(0, .ref 107), (1, .ref 0), (2, .ref 72), (3, .int v3)] [] M
/-- at the cut 947 of L_law -/
def At_L_law_947 (G : GC)  (v3 : Int32)  (M : MM) : Prop := Ev G 947 [(0, .ref 107), (1, .ref 0), (2, .ref 72), (3, .int v3)] [] M
/-- at the cut 990 of L_law -/
def At_L_law_990 (G : GC)  (v3 : Int32)  (M : MM) : Prop := Ev G 990 [(0, .ref 107), (1, .ref 0), (2, .ref 72), (3, .int v3)] [] M
/-- at the cut 1013 of L_law -/
def At_L_law_1013 (G : GC)  (v3 : Int32)  (M : MM) : Prop := Ev G 1013 [(0, .ref 107), (1, .ref 0), (2, .ref 72), (3, .int v3)] [] M
set_option maxHeartbeats 4000000 in
set_option maxRecDepth 100000 in
theorem b_L_law_18 {G : GC} {n L0 : Nat} {xs : Nat → Int32} (g : Good G mL_law n) (lx : LX G L0 xs) (hn : 16 ≤ n)  (v3 : Int32)  (M : MM) (h : (((((nI L0) - 6) : Int32) < v3 → True) ∧ (¬ ((((nI L0) - 6) : Int32) < v3) → (vp_in v3 L0) ∧ ((((xs v3.toNatClampNeg) &&& 31) = (0 : Int32) → At_L_law_140 G v3 M) ∧ (((xs v3.toNatClampNeg) &&& 31) = (1 : Int32) → At_L_law_183 G v3 M) ∧ (((xs v3.toNatClampNeg) &&& 31) = (2 : Int32) → At_L_law_226 G v3 M) ∧ (((xs v3.toNatClampNeg) &&& 31) = (3 : Int32) → At_L_law_259 G v3 M) ∧ (((xs v3.toNatClampNeg) &&& 31) = (4 : Int32) → At_L_law_312 G v3 M) ∧ (((xs v3.toNatClampNeg) &&& 31) = (5 : Int32) → At_L_law_375 G v3 M) ∧ (((xs v3.toNatClampNeg) &&& 31) = (6 : Int32) → At_L_law_408 G v3 M) ∧ (((xs v3.toNatClampNeg) &&& 31) = (7 : Int32) → At_L_law_457 G v3 M) ∧ (((xs v3.toNatClampNeg) &&& 31) = (8 : Int32) → At_L_law_506 G v3 M) ∧ (((xs v3.toNatClampNeg) &&& 31) = (9 : Int32) → At_L_law_539 G v3 M) ∧ (((xs v3.toNatClampNeg) &&& 31) = (10 : Int32) → At_L_law_572 G v3 M) ∧ (((xs v3.toNatClampNeg) &&& 31) = (11 : Int32) → At_L_law_595 G v3 M) ∧ (((xs v3.toNatClampNeg) &&& 31) = (12 : Int32) → At_L_law_628 G v3 M) ∧ (((xs v3.toNatClampNeg) &&& 31) = (13 : Int32) → At_L_law_641 G v3 M) ∧ (((xs v3.toNatClampNeg) &&& 31) = (14 : Int32) → At_L_law_684 G v3 M) ∧ (((xs v3.toNatClampNeg) &&& 31) = (15 : Int32) → At_L_law_707 G v3 M) ∧ (((xs v3.toNatClampNeg) &&& 31) = (16 : Int32) → At_L_law_741 G v3 M) ∧ (((xs v3.toNatClampNeg) &&& 31) = (17 : Int32) → At_L_law_785 G v3 M) ∧ (((xs v3.toNatClampNeg) &&& 31) = (18 : Int32) → At_L_law_808 G v3 M) ∧ (((xs v3.toNatClampNeg) &&& 31) = (19 : Int32) → At_L_law_851 G v3 M) ∧ (((xs v3.toNatClampNeg) &&& 31) = (20 : Int32) → At_L_law_894 G v3 M) ∧ (((xs v3.toNatClampNeg) &&& 31) = (21 : Int32) → At_L_law_947 G v3 M) ∧ (((xs v3.toNatClampNeg) &&& 31) = (22 : Int32) → At_L_law_990 G v3 M) ∧ (¬ ((xs v3.toNatClampNeg) &&& 31) = (0 : Int32) → ¬ ((xs v3.toNatClampNeg) &&& 31) = (1 : Int32) → ¬ ((xs v3.toNatClampNeg) &&& 31) = (2 : Int32) → ¬ ((xs v3.toNatClampNeg) &&& 31) = (3 : Int32) → ¬ ((xs v3.toNatClampNeg) &&& 31) = (4 : Int32) → ¬ ((xs v3.toNatClampNeg) &&& 31) = (5 : Int32) → ¬ ((xs v3.toNatClampNeg) &&& 31) = (6 : Int32) → ¬ ((xs v3.toNatClampNeg) &&& 31) = (7 : Int32) → ¬ ((xs v3.toNatClampNeg) &&& 31) = (8 : Int32) → ¬ ((xs v3.toNatClampNeg) &&& 31) = (9 : Int32) → ¬ ((xs v3.toNatClampNeg) &&& 31) = (10 : Int32) → ¬ ((xs v3.toNatClampNeg) &&& 31) = (11 : Int32) → ¬ ((xs v3.toNatClampNeg) &&& 31) = (12 : Int32) → ¬ ((xs v3.toNatClampNeg) &&& 31) = (13 : Int32) → ¬ ((xs v3.toNatClampNeg) &&& 31) = (14 : Int32) → ¬ ((xs v3.toNatClampNeg) &&& 31) = (15 : Int32) → ¬ ((xs v3.toNatClampNeg) &&& 31) = (16 : Int32) → ¬ ((xs v3.toNatClampNeg) &&& 31) = (17 : Int32) → ¬ ((xs v3.toNatClampNeg) &&& 31) = (18 : Int32) → ¬ ((xs v3.toNatClampNeg) &&& 31) = (19 : Int32) → ¬ ((xs v3.toNatClampNeg) &&& 31) = (20 : Int32) → ¬ ((xs v3.toNatClampNeg) &&& 31) = (21 : Int32) → ¬ ((xs v3.toNatClampNeg) &&& 31) = (22 : Int32) → At_L_law_1013 G v3 M))))) : At_L_law_18 G v3 M := by
  unfold At_L_law_18
  refine e_iload_n (pc := 18) g 3 dL_law_18 rfl ?_
  refine e_aload_n (pc := 19) g 0 dL_law_19 rfl ?_
  refine e_slen (pc := 20) g lx dL_law_20 ?_
  refine e_bipush (pc := 21) g 6 dL_law_21 kb_6 ?_
  refine e_isub (pc := 23) g dL_law_23 ?_
  refine e_icmp_gt (pc := 24) g 1019 dL_law_24 (by decide) (fun c1 => ?_) (fun c1 => ?_)
  · have h := h.1 c1
    refine e_iconst (pc := 1019) g 1 dL_law_1019 kc_1 ?_
    exact lx.2.2.2 _ _
  · have h := h.2 c1
    refine e_aload_n (pc := 27) g 0 dL_law_27 rfl ?_
    refine e_iload_n (pc := 28) g 3 dL_law_28 rfl ?_
    obtain ⟨o2, h⟩ := h
    refine e_sld (pc := 29) g lx o2 dL_law_29 ?_
    refine e_bipush (pc := 30) g 31 dL_law_30 kb_31 ?_
    refine e_iand (pc := 32) g dL_law_32 ?_
    obtain ⟨h0, h1, h2, h3, h4, h5, h6, h7, h8, h9, h10, h11, h12, h13, h14, h15, h16, h17, h18, h19, h20, h21, h22, hd⟩ := h
    by_cases cs0 : ((xs v3.toNatClampNeg) &&& 31) = (0 : Int32)
    · have h := h0 cs0
      refine e_to (S' := [.int 0]) rfl (by rw [cs0]) rfl ?_
      refine e_tabIn (off := 107) (pc := 33) g 140 dL_law_33 (by decide) (by decide) (by decide +kernel) (by decide) ?_
      exact h
    by_cases cs1 : ((xs v3.toNatClampNeg) &&& 31) = (1 : Int32)
    · have h := h1 cs1
      refine e_to (S' := [.int 1]) rfl (by rw [cs1]) rfl ?_
      refine e_tabIn (off := 150) (pc := 33) g 183 dL_law_33 (by decide) (by decide) (by decide +kernel) (by decide) ?_
      exact h
    by_cases cs2 : ((xs v3.toNatClampNeg) &&& 31) = (2 : Int32)
    · have h := h2 cs2
      refine e_to (S' := [.int 2]) rfl (by rw [cs2]) rfl ?_
      refine e_tabIn (off := 193) (pc := 33) g 226 dL_law_33 (by decide) (by decide) (by decide +kernel) (by decide) ?_
      exact h
    by_cases cs3 : ((xs v3.toNatClampNeg) &&& 31) = (3 : Int32)
    · have h := h3 cs3
      refine e_to (S' := [.int 3]) rfl (by rw [cs3]) rfl ?_
      refine e_tabIn (off := 226) (pc := 33) g 259 dL_law_33 (by decide) (by decide) (by decide +kernel) (by decide) ?_
      exact h
    by_cases cs4 : ((xs v3.toNatClampNeg) &&& 31) = (4 : Int32)
    · have h := h4 cs4
      refine e_to (S' := [.int 4]) rfl (by rw [cs4]) rfl ?_
      refine e_tabIn (off := 279) (pc := 33) g 312 dL_law_33 (by decide) (by decide) (by decide +kernel) (by decide) ?_
      exact h
    by_cases cs5 : ((xs v3.toNatClampNeg) &&& 31) = (5 : Int32)
    · have h := h5 cs5
      refine e_to (S' := [.int 5]) rfl (by rw [cs5]) rfl ?_
      refine e_tabIn (off := 342) (pc := 33) g 375 dL_law_33 (by decide) (by decide) (by decide +kernel) (by decide) ?_
      exact h
    by_cases cs6 : ((xs v3.toNatClampNeg) &&& 31) = (6 : Int32)
    · have h := h6 cs6
      refine e_to (S' := [.int 6]) rfl (by rw [cs6]) rfl ?_
      refine e_tabIn (off := 375) (pc := 33) g 408 dL_law_33 (by decide) (by decide) (by decide +kernel) (by decide) ?_
      exact h
    by_cases cs7 : ((xs v3.toNatClampNeg) &&& 31) = (7 : Int32)
    · have h := h7 cs7
      refine e_to (S' := [.int 7]) rfl (by rw [cs7]) rfl ?_
      refine e_tabIn (off := 424) (pc := 33) g 457 dL_law_33 (by decide) (by decide) (by decide +kernel) (by decide) ?_
      exact h
    by_cases cs8 : ((xs v3.toNatClampNeg) &&& 31) = (8 : Int32)
    · have h := h8 cs8
      refine e_to (S' := [.int 8]) rfl (by rw [cs8]) rfl ?_
      refine e_tabIn (off := 473) (pc := 33) g 506 dL_law_33 (by decide) (by decide) (by decide +kernel) (by decide) ?_
      exact h
    by_cases cs9 : ((xs v3.toNatClampNeg) &&& 31) = (9 : Int32)
    · have h := h9 cs9
      refine e_to (S' := [.int 9]) rfl (by rw [cs9]) rfl ?_
      refine e_tabIn (off := 506) (pc := 33) g 539 dL_law_33 (by decide) (by decide) (by decide +kernel) (by decide) ?_
      exact h
    by_cases cs10 : ((xs v3.toNatClampNeg) &&& 31) = (10 : Int32)
    · have h := h10 cs10
      refine e_to (S' := [.int 10]) rfl (by rw [cs10]) rfl ?_
      refine e_tabIn (off := 539) (pc := 33) g 572 dL_law_33 (by decide) (by decide) (by decide +kernel) (by decide) ?_
      exact h
    by_cases cs11 : ((xs v3.toNatClampNeg) &&& 31) = (11 : Int32)
    · have h := h11 cs11
      refine e_to (S' := [.int 11]) rfl (by rw [cs11]) rfl ?_
      refine e_tabIn (off := 562) (pc := 33) g 595 dL_law_33 (by decide) (by decide) (by decide +kernel) (by decide) ?_
      exact h
    by_cases cs12 : ((xs v3.toNatClampNeg) &&& 31) = (12 : Int32)
    · have h := h12 cs12
      refine e_to (S' := [.int 12]) rfl (by rw [cs12]) rfl ?_
      refine e_tabIn (off := 595) (pc := 33) g 628 dL_law_33 (by decide) (by decide) (by decide +kernel) (by decide) ?_
      exact h
    by_cases cs13 : ((xs v3.toNatClampNeg) &&& 31) = (13 : Int32)
    · have h := h13 cs13
      refine e_to (S' := [.int 13]) rfl (by rw [cs13]) rfl ?_
      refine e_tabIn (off := 608) (pc := 33) g 641 dL_law_33 (by decide) (by decide) (by decide +kernel) (by decide) ?_
      exact h
    by_cases cs14 : ((xs v3.toNatClampNeg) &&& 31) = (14 : Int32)
    · have h := h14 cs14
      refine e_to (S' := [.int 14]) rfl (by rw [cs14]) rfl ?_
      refine e_tabIn (off := 651) (pc := 33) g 684 dL_law_33 (by decide) (by decide) (by decide +kernel) (by decide) ?_
      exact h
    by_cases cs15 : ((xs v3.toNatClampNeg) &&& 31) = (15 : Int32)
    · have h := h15 cs15
      refine e_to (S' := [.int 15]) rfl (by rw [cs15]) rfl ?_
      refine e_tabIn (off := 674) (pc := 33) g 707 dL_law_33 (by decide) (by decide) (by decide +kernel) (by decide) ?_
      exact h
    by_cases cs16 : ((xs v3.toNatClampNeg) &&& 31) = (16 : Int32)
    · have h := h16 cs16
      refine e_to (S' := [.int 16]) rfl (by rw [cs16]) rfl ?_
      refine e_tabIn (off := 708) (pc := 33) g 741 dL_law_33 (by decide) (by decide) (by decide +kernel) (by decide) ?_
      exact h
    by_cases cs17 : ((xs v3.toNatClampNeg) &&& 31) = (17 : Int32)
    · have h := h17 cs17
      refine e_to (S' := [.int 17]) rfl (by rw [cs17]) rfl ?_
      refine e_tabIn (off := 752) (pc := 33) g 785 dL_law_33 (by decide) (by decide) (by decide +kernel) (by decide) ?_
      exact h
    by_cases cs18 : ((xs v3.toNatClampNeg) &&& 31) = (18 : Int32)
    · have h := h18 cs18
      refine e_to (S' := [.int 18]) rfl (by rw [cs18]) rfl ?_
      refine e_tabIn (off := 775) (pc := 33) g 808 dL_law_33 (by decide) (by decide) (by decide +kernel) (by decide) ?_
      exact h
    by_cases cs19 : ((xs v3.toNatClampNeg) &&& 31) = (19 : Int32)
    · have h := h19 cs19
      refine e_to (S' := [.int 19]) rfl (by rw [cs19]) rfl ?_
      refine e_tabIn (off := 818) (pc := 33) g 851 dL_law_33 (by decide) (by decide) (by decide +kernel) (by decide) ?_
      exact h
    by_cases cs20 : ((xs v3.toNatClampNeg) &&& 31) = (20 : Int32)
    · have h := h20 cs20
      refine e_to (S' := [.int 20]) rfl (by rw [cs20]) rfl ?_
      refine e_tabIn (off := 861) (pc := 33) g 894 dL_law_33 (by decide) (by decide) (by decide +kernel) (by decide) ?_
      exact h
    by_cases cs21 : ((xs v3.toNatClampNeg) &&& 31) = (21 : Int32)
    · have h := h21 cs21
      refine e_to (S' := [.int 21]) rfl (by rw [cs21]) rfl ?_
      refine e_tabIn (off := 914) (pc := 33) g 947 dL_law_33 (by decide) (by decide) (by decide +kernel) (by decide) ?_
      exact h
    by_cases cs22 : ((xs v3.toNatClampNeg) &&& 31) = (22 : Int32)
    · have h := h22 cs22
      refine e_to (S' := [.int 22]) rfl (by rw [cs22]) rfl ?_
      refine e_tabIn (off := 957) (pc := 33) g 990 dL_law_33 (by decide) (by decide) (by decide +kernel) (by decide) ?_
      exact h
    have h := hd cs0 cs1 cs2 cs3 cs4 cs5 cs6 cs7 cs8 cs9 cs10 cs11 cs12 cs13 cs14 cs15 cs16 cs17 cs18 cs19 cs20 cs21 cs22
    refine e_tabOut (pc := 33) g 1013 dL_law_33 (tab_23 cs0 cs1 cs2 cs3 cs4 cs5 cs6 cs7 cs8 cs9 cs10 cs11 cs12 cs13 cs14 cs15 cs16 cs17 cs18 cs19 cs20 cs21 cs22) (by decide) ?_
    exact h
set_option maxHeartbeats 4000000 in
set_option maxRecDepth 100000 in
theorem b_L_law_140 {G : GC} {n L0 : Nat} {xs : Nat → Int32} (g : Good G mL_law n) (lx : LX G L0 xs) (hn : 16 ≤ n)  (v3 : Int32)  (M : MM) (h : (vp_in (v3 + 1) L0) ∧ (vp_in (v3 + 2) L0) ∧ (vp_in (v3 + 3) L0) ∧ (∃ (r6 : Int32) (M4 : MM), Fn 3 mX9_ditch [.ref 0, .int (xs (v3 + 1).toNatClampNeg), .int (xs (v3 + 2).toNatClampNeg), .int (xs (v3 + 3).toNatClampNeg)] M (some (.int r6)) M4 ∧ (∃ (r9 : Int32) (M7 : MM), Fn 2 mX10_ditch [.ref 72, .int (xs (v3 + 1).toNatClampNeg), .int (xs (v3 + 2).toNatClampNeg), .int (xs (v3 + 3).toNatClampNeg)] M4 (some (.int r9)) M7 ∧ ((r6 = (r9 : Int32) → At_L_law_1013 G v3 M7) ∧ (¬ (r6 = (r9 : Int32)) → False))))) : At_L_law_140 G v3 M := by
  unfold At_L_law_140
  refine e_aload_n (pc := 140) g 1 dL_law_140 rfl ?_
  refine e_aload_n (pc := 141) g 0 dL_law_141 rfl ?_
  refine e_iload_n (pc := 142) g 3 dL_law_142 rfl ?_
  refine e_iconst (pc := 143) g 1 dL_law_143 kc_1 ?_
  refine e_iadd (pc := 144) g dL_law_144 ?_
  obtain ⟨o1, h⟩ := h
  refine e_sld (pc := 145) g lx o1 dL_law_145 ?_
  refine e_aload_n (pc := 146) g 0 dL_law_146 rfl ?_
  refine e_iload_n (pc := 147) g 3 dL_law_147 rfl ?_
  refine e_iconst (pc := 148) g 2 dL_law_148 kc_2 ?_
  refine e_iadd (pc := 149) g dL_law_149 ?_
  obtain ⟨o2, h⟩ := h
  refine e_sld (pc := 150) g lx o2 dL_law_150 ?_
  refine e_aload_n (pc := 151) g 0 dL_law_151 rfl ?_
  refine e_iload_n (pc := 152) g 3 dL_law_152 rfl ?_
  refine e_iconst (pc := 153) g 3 dL_law_153 kc_3 ?_
  refine e_iadd (pc := 154) g dL_law_154 ?_
  obtain ⟨o3, h⟩ := h
  refine e_sld (pc := 155) g lx o3 dL_law_155 ?_
  obtain ⟨r6, M4, f5, h⟩ := h
  refine e_callV (As := [.int (xs (v3 + 1).toNatClampNeg), .int (xs (v3 + 2).toNatClampNeg), .int (xs (v3 + 3).toNatClampNeg)]) (S := []) (pc := 156) g ok_X9_ditch ml_L_13 sh_0 ⟨_, rfl, rfl⟩ f5 (by omega) rfl (Nat.le_of_ble_eq_true rfl) dL_law_156 ?_
  refine e_to (S' := [.int r6]) rfl rfl rfl ?_
  refine e_aload_n (pc := 159) g 2 dL_law_159 rfl ?_
  refine e_aload_n (pc := 160) g 0 dL_law_160 rfl ?_
  refine e_iload_n (pc := 161) g 3 dL_law_161 rfl ?_
  refine e_iconst (pc := 162) g 1 dL_law_162 kc_1 ?_
  refine e_iadd (pc := 163) g dL_law_163 ?_
  refine e_sld (pc := 164) g lx o1 dL_law_164 ?_
  refine e_aload_n (pc := 165) g 0 dL_law_165 rfl ?_
  refine e_iload_n (pc := 166) g 3 dL_law_166 rfl ?_
  refine e_iconst (pc := 167) g 2 dL_law_167 kc_2 ?_
  refine e_iadd (pc := 168) g dL_law_168 ?_
  refine e_sld (pc := 169) g lx o2 dL_law_169 ?_
  refine e_aload_n (pc := 170) g 0 dL_law_170 rfl ?_
  refine e_iload_n (pc := 171) g 3 dL_law_171 rfl ?_
  refine e_iconst (pc := 172) g 3 dL_law_172 kc_3 ?_
  refine e_iadd (pc := 173) g dL_law_173 ?_
  refine e_sld (pc := 174) g lx o3 dL_law_174 ?_
  obtain ⟨r9, M7, f8, h⟩ := h
  refine e_callV (As := [.int (xs (v3 + 1).toNatClampNeg), .int (xs (v3 + 2).toNatClampNeg), .int (xs (v3 + 3).toNatClampNeg)]) (S := [.int r6]) (pc := 175) g ok_X10_ditch ml_L_17 sh_72 ⟨_, rfl, rfl⟩ f8 (by omega) rfl (Nat.le_of_ble_eq_true rfl) dL_law_175 ?_
  refine e_to (S' := [.int r9, .int r6]) rfl rfl rfl ?_
  refine e_icmp_eq (pc := 178) g 1013 dL_law_178 (by decide) (fun c10 => ?_) (fun c10 => ?_)
  · have h := h.1 c10
    exact h
  · have h := h.2 c10
    refine e_iconst (pc := 181) g 0 dL_law_181 kc_0 ?_
    exact h.elim
set_option maxHeartbeats 4000000 in
set_option maxRecDepth 100000 in
theorem b_L_law_183 {G : GC} {n L0 : Nat} {xs : Nat → Int32} (g : Good G mL_law n) (lx : LX G L0 xs) (hn : 16 ≤ n)  (v3 : Int32)  (M : MM) (h : (vp_in (v3 + 1) L0) ∧ (vp_in (v3 + 2) L0) ∧ (vp_in (v3 + 3) L0) ∧ (∃ (r6 : Int32) (M4 : MM), Fn 2 mX9_band [.ref 0, .int (xs (v3 + 1).toNatClampNeg), .int (xs (v3 + 2).toNatClampNeg), .int (xs (v3 + 3).toNatClampNeg)] M (some (.int r6)) M4 ∧ (∃ (r9 : Int32) (M7 : MM), Fn 3 mX10_band [.ref 72, .int (xs (v3 + 1).toNatClampNeg), .int (xs (v3 + 2).toNatClampNeg), .int (xs (v3 + 3).toNatClampNeg)] M4 (some (.int r9)) M7 ∧ ((r6 = (r9 : Int32) → At_L_law_1013 G v3 M7) ∧ (¬ (r6 = (r9 : Int32)) → False))))) : At_L_law_183 G v3 M := by
  unfold At_L_law_183
  refine e_aload_n (pc := 183) g 1 dL_law_183 rfl ?_
  refine e_aload_n (pc := 184) g 0 dL_law_184 rfl ?_
  refine e_iload_n (pc := 185) g 3 dL_law_185 rfl ?_
  refine e_iconst (pc := 186) g 1 dL_law_186 kc_1 ?_
  refine e_iadd (pc := 187) g dL_law_187 ?_
  obtain ⟨o1, h⟩ := h
  refine e_sld (pc := 188) g lx o1 dL_law_188 ?_
  refine e_aload_n (pc := 189) g 0 dL_law_189 rfl ?_
  refine e_iload_n (pc := 190) g 3 dL_law_190 rfl ?_
  refine e_iconst (pc := 191) g 2 dL_law_191 kc_2 ?_
  refine e_iadd (pc := 192) g dL_law_192 ?_
  obtain ⟨o2, h⟩ := h
  refine e_sld (pc := 193) g lx o2 dL_law_193 ?_
  refine e_aload_n (pc := 194) g 0 dL_law_194 rfl ?_
  refine e_iload_n (pc := 195) g 3 dL_law_195 rfl ?_
  refine e_iconst (pc := 196) g 3 dL_law_196 kc_3 ?_
  refine e_iadd (pc := 197) g dL_law_197 ?_
  obtain ⟨o3, h⟩ := h
  refine e_sld (pc := 198) g lx o3 dL_law_198 ?_
  obtain ⟨r6, M4, f5, h⟩ := h
  refine e_callV (As := [.int (xs (v3 + 1).toNatClampNeg), .int (xs (v3 + 2).toNatClampNeg), .int (xs (v3 + 3).toNatClampNeg)]) (S := []) (pc := 199) g ok_X9_band ml_L_18 sh_0 ⟨_, rfl, rfl⟩ f5 (by omega) rfl (Nat.le_of_ble_eq_true rfl) dL_law_199 ?_
  refine e_to (S' := [.int r6]) rfl rfl rfl ?_
  refine e_aload_n (pc := 202) g 2 dL_law_202 rfl ?_
  refine e_aload_n (pc := 203) g 0 dL_law_203 rfl ?_
  refine e_iload_n (pc := 204) g 3 dL_law_204 rfl ?_
  refine e_iconst (pc := 205) g 1 dL_law_205 kc_1 ?_
  refine e_iadd (pc := 206) g dL_law_206 ?_
  refine e_sld (pc := 207) g lx o1 dL_law_207 ?_
  refine e_aload_n (pc := 208) g 0 dL_law_208 rfl ?_
  refine e_iload_n (pc := 209) g 3 dL_law_209 rfl ?_
  refine e_iconst (pc := 210) g 2 dL_law_210 kc_2 ?_
  refine e_iadd (pc := 211) g dL_law_211 ?_
  refine e_sld (pc := 212) g lx o2 dL_law_212 ?_
  refine e_aload_n (pc := 213) g 0 dL_law_213 rfl ?_
  refine e_iload_n (pc := 214) g 3 dL_law_214 rfl ?_
  refine e_iconst (pc := 215) g 3 dL_law_215 kc_3 ?_
  refine e_iadd (pc := 216) g dL_law_216 ?_
  refine e_sld (pc := 217) g lx o3 dL_law_217 ?_
  obtain ⟨r9, M7, f8, h⟩ := h
  refine e_callV (As := [.int (xs (v3 + 1).toNatClampNeg), .int (xs (v3 + 2).toNatClampNeg), .int (xs (v3 + 3).toNatClampNeg)]) (S := [.int r6]) (pc := 218) g ok_X10_band ml_L_21 sh_72 ⟨_, rfl, rfl⟩ f8 (by omega) rfl (Nat.le_of_ble_eq_true rfl) dL_law_218 ?_
  refine e_to (S' := [.int r9, .int r6]) rfl rfl rfl ?_
  refine e_icmp_eq (pc := 221) g 1013 dL_law_221 (by decide) (fun c10 => ?_) (fun c10 => ?_)
  · have h := h.1 c10
    exact h
  · have h := h.2 c10
    refine e_iconst (pc := 224) g 0 dL_law_224 kc_0 ?_
    exact h.elim
set_option maxHeartbeats 4000000 in
set_option maxRecDepth 100000 in
theorem b_L_law_226 {G : GC} {n L0 : Nat} {xs : Nat → Int32} (g : Good G mL_law n) (lx : LX G L0 xs) (hn : 16 ≤ n)  (v3 : Int32)  (M : MM) (h : (vp_in (v3 + 1) L0) ∧ (vp_in (v3 + 2) L0) ∧ (∃ (r5 : Int32) (M3 : MM), Fn 3 mX9_told [.ref 0, .int (xs (v3 + 1).toNatClampNeg), .int (xs (v3 + 2).toNatClampNeg)] M (some (.int r5)) M3 ∧ (∃ (r8 : Int32) (M6 : MM), Fn 3 mX10_told [.ref 72, .int (xs (v3 + 1).toNatClampNeg), .int (xs (v3 + 2).toNatClampNeg)] M3 (some (.int r8)) M6 ∧ ((r5 = (r8 : Int32) → At_L_law_1013 G v3 M6) ∧ (¬ (r5 = (r8 : Int32)) → False))))) : At_L_law_226 G v3 M := by
  unfold At_L_law_226
  refine e_aload_n (pc := 226) g 1 dL_law_226 rfl ?_
  refine e_aload_n (pc := 227) g 0 dL_law_227 rfl ?_
  refine e_iload_n (pc := 228) g 3 dL_law_228 rfl ?_
  refine e_iconst (pc := 229) g 1 dL_law_229 kc_1 ?_
  refine e_iadd (pc := 230) g dL_law_230 ?_
  obtain ⟨o1, h⟩ := h
  refine e_sld (pc := 231) g lx o1 dL_law_231 ?_
  refine e_aload_n (pc := 232) g 0 dL_law_232 rfl ?_
  refine e_iload_n (pc := 233) g 3 dL_law_233 rfl ?_
  refine e_iconst (pc := 234) g 2 dL_law_234 kc_2 ?_
  refine e_iadd (pc := 235) g dL_law_235 ?_
  obtain ⟨o2, h⟩ := h
  refine e_sld (pc := 236) g lx o2 dL_law_236 ?_
  obtain ⟨r5, M3, f4, h⟩ := h
  refine e_callV (As := [.int (xs (v3 + 1).toNatClampNeg), .int (xs (v3 + 2).toNatClampNeg)]) (S := []) (pc := 237) g ok_X9_told ml_L_22 sh_0 ⟨_, rfl, rfl⟩ f4 (by omega) rfl (Nat.le_of_ble_eq_true rfl) dL_law_237 ?_
  refine e_to (S' := [.int r5]) rfl rfl rfl ?_
  refine e_aload_n (pc := 240) g 2 dL_law_240 rfl ?_
  refine e_aload_n (pc := 241) g 0 dL_law_241 rfl ?_
  refine e_iload_n (pc := 242) g 3 dL_law_242 rfl ?_
  refine e_iconst (pc := 243) g 1 dL_law_243 kc_1 ?_
  refine e_iadd (pc := 244) g dL_law_244 ?_
  refine e_sld (pc := 245) g lx o1 dL_law_245 ?_
  refine e_aload_n (pc := 246) g 0 dL_law_246 rfl ?_
  refine e_iload_n (pc := 247) g 3 dL_law_247 rfl ?_
  refine e_iconst (pc := 248) g 2 dL_law_248 kc_2 ?_
  refine e_iadd (pc := 249) g dL_law_249 ?_
  refine e_sld (pc := 250) g lx o2 dL_law_250 ?_
  obtain ⟨r8, M6, f7, h⟩ := h
  refine e_callV (As := [.int (xs (v3 + 1).toNatClampNeg), .int (xs (v3 + 2).toNatClampNeg)]) (S := [.int r5]) (pc := 251) g ok_X10_told ml_L_26 sh_72 ⟨_, rfl, rfl⟩ f7 (by omega) rfl (Nat.le_of_ble_eq_true rfl) dL_law_251 ?_
  refine e_to (S' := [.int r8, .int r5]) rfl rfl rfl ?_
  refine e_icmp_eq (pc := 254) g 1013 dL_law_254 (by decide) (fun c9 => ?_) (fun c9 => ?_)
  · have h := h.1 c9
    exact h
  · have h := h.2 c9
    refine e_iconst (pc := 257) g 0 dL_law_257 kc_0 ?_
    exact h.elim
set_option maxHeartbeats 4000000 in
set_option maxRecDepth 100000 in
theorem b_L_law_259 {G : GC} {n L0 : Nat} {xs : Nat → Int32} (g : Good G mL_law n) (lx : LX G L0 xs) (hn : 16 ≤ n)  (v3 : Int32)  (M : MM) (h : (vp_in (v3 + 1) L0) ∧ (vp_in (v3 + 2) L0) ∧ (vp_in (v3 + 3) L0) ∧ (vp_in (v3 + 4) L0) ∧ (∃ (r7 : Int32) (M5 : MM), Fn 3 mX9_weir [.ref 0, .int (xs (v3 + 1).toNatClampNeg), .int (xs (v3 + 2).toNatClampNeg), .int (xs (v3 + 3).toNatClampNeg), .int (xs (v3 + 4).toNatClampNeg)] M (some (.int r7)) M5 ∧ (∃ (r10 : Int32) (M8 : MM), Fn 3 mX10_weir [.ref 72, .int (xs (v3 + 1).toNatClampNeg), .int (xs (v3 + 2).toNatClampNeg), .int (xs (v3 + 3).toNatClampNeg), .int (xs (v3 + 4).toNatClampNeg)] M5 (some (.int r10)) M8 ∧ ((r7 = (r10 : Int32) → At_L_law_1013 G v3 M8) ∧ (¬ (r7 = (r10 : Int32)) → False))))) : At_L_law_259 G v3 M := by
  unfold At_L_law_259
  refine e_aload_n (pc := 259) g 1 dL_law_259 rfl ?_
  refine e_aload_n (pc := 260) g 0 dL_law_260 rfl ?_
  refine e_iload_n (pc := 261) g 3 dL_law_261 rfl ?_
  refine e_iconst (pc := 262) g 1 dL_law_262 kc_1 ?_
  refine e_iadd (pc := 263) g dL_law_263 ?_
  obtain ⟨o1, h⟩ := h
  refine e_sld (pc := 264) g lx o1 dL_law_264 ?_
  refine e_aload_n (pc := 265) g 0 dL_law_265 rfl ?_
  refine e_iload_n (pc := 266) g 3 dL_law_266 rfl ?_
  refine e_iconst (pc := 267) g 2 dL_law_267 kc_2 ?_
  refine e_iadd (pc := 268) g dL_law_268 ?_
  obtain ⟨o2, h⟩ := h
  refine e_sld (pc := 269) g lx o2 dL_law_269 ?_
  refine e_aload_n (pc := 270) g 0 dL_law_270 rfl ?_
  refine e_iload_n (pc := 271) g 3 dL_law_271 rfl ?_
  refine e_iconst (pc := 272) g 3 dL_law_272 kc_3 ?_
  refine e_iadd (pc := 273) g dL_law_273 ?_
  obtain ⟨o3, h⟩ := h
  refine e_sld (pc := 274) g lx o3 dL_law_274 ?_
  refine e_aload_n (pc := 275) g 0 dL_law_275 rfl ?_
  refine e_iload_n (pc := 276) g 3 dL_law_276 rfl ?_
  refine e_iconst (pc := 277) g 4 dL_law_277 kc_4 ?_
  refine e_iadd (pc := 278) g dL_law_278 ?_
  obtain ⟨o4, h⟩ := h
  refine e_sld (pc := 279) g lx o4 dL_law_279 ?_
  obtain ⟨r7, M5, f6, h⟩ := h
  refine e_callV (As := [.int (xs (v3 + 1).toNatClampNeg), .int (xs (v3 + 2).toNatClampNeg), .int (xs (v3 + 3).toNatClampNeg), .int (xs (v3 + 4).toNatClampNeg)]) (S := []) (pc := 280) g ok_X9_weir ml_L_27 sh_0 ⟨_, rfl, rfl⟩ f6 (by omega) rfl (Nat.le_of_ble_eq_true rfl) dL_law_280 ?_
  refine e_to (S' := [.int r7]) rfl rfl rfl ?_
  refine e_aload_n (pc := 283) g 2 dL_law_283 rfl ?_
  refine e_aload_n (pc := 284) g 0 dL_law_284 rfl ?_
  refine e_iload_n (pc := 285) g 3 dL_law_285 rfl ?_
  refine e_iconst (pc := 286) g 1 dL_law_286 kc_1 ?_
  refine e_iadd (pc := 287) g dL_law_287 ?_
  refine e_sld (pc := 288) g lx o1 dL_law_288 ?_
  refine e_aload_n (pc := 289) g 0 dL_law_289 rfl ?_
  refine e_iload_n (pc := 290) g 3 dL_law_290 rfl ?_
  refine e_iconst (pc := 291) g 2 dL_law_291 kc_2 ?_
  refine e_iadd (pc := 292) g dL_law_292 ?_
  refine e_sld (pc := 293) g lx o2 dL_law_293 ?_
  refine e_aload_n (pc := 294) g 0 dL_law_294 rfl ?_
  refine e_iload_n (pc := 295) g 3 dL_law_295 rfl ?_
  refine e_iconst (pc := 296) g 3 dL_law_296 kc_3 ?_
  refine e_iadd (pc := 297) g dL_law_297 ?_
  refine e_sld (pc := 298) g lx o3 dL_law_298 ?_
  refine e_aload_n (pc := 299) g 0 dL_law_299 rfl ?_
  refine e_iload_n (pc := 300) g 3 dL_law_300 rfl ?_
  refine e_iconst (pc := 301) g 4 dL_law_301 kc_4 ?_
  refine e_iadd (pc := 302) g dL_law_302 ?_
  refine e_sld (pc := 303) g lx o4 dL_law_303 ?_
  obtain ⟨r10, M8, f9, h⟩ := h
  refine e_callV (As := [.int (xs (v3 + 1).toNatClampNeg), .int (xs (v3 + 2).toNatClampNeg), .int (xs (v3 + 3).toNatClampNeg), .int (xs (v3 + 4).toNatClampNeg)]) (S := [.int r7]) (pc := 304) g ok_X10_weir ml_L_31 sh_72 ⟨_, rfl, rfl⟩ f9 (by omega) rfl (Nat.le_of_ble_eq_true rfl) dL_law_304 ?_
  refine e_to (S' := [.int r10, .int r7]) rfl rfl rfl ?_
  refine e_icmp_eq (pc := 307) g 1013 dL_law_307 (by decide) (fun c11 => ?_) (fun c11 => ?_)
  · have h := h.1 c11
    exact h
  · have h := h.2 c11
    refine e_iconst (pc := 310) g 0 dL_law_310 kc_0 ?_
    exact h.elim
set_option maxHeartbeats 4000000 in
set_option maxRecDepth 100000 in
theorem b_L_law_312 {G : GC} {n L0 : Nat} {xs : Nat → Int32} (g : Good G mL_law n) (lx : LX G L0 xs) (hn : 16 ≤ n)  (v3 : Int32)  (M : MM) (h : (vp_in (v3 + 1) L0) ∧ (vp_in (v3 + 2) L0) ∧ (vp_in (v3 + 3) L0) ∧ (vp_in (v3 + 4) L0) ∧ (vp_in (v3 + 5) L0) ∧ (∃ (r8 : Int32) (M6 : MM), Fn 2 mX9_pump [.ref 0, .int (xs (v3 + 1).toNatClampNeg), .int (xs (v3 + 2).toNatClampNeg), .int (xs (v3 + 3).toNatClampNeg), .int (xs (v3 + 4).toNatClampNeg), .int (xs (v3 + 5).toNatClampNeg)] M (some (.int r8)) M6 ∧ (∃ (r11 : Int32) (M9 : MM), Fn 3 mX10_pump [.ref 72, .int (xs (v3 + 1).toNatClampNeg), .int (xs (v3 + 2).toNatClampNeg), .int (xs (v3 + 3).toNatClampNeg), .int (xs (v3 + 4).toNatClampNeg), .int (xs (v3 + 5).toNatClampNeg)] M6 (some (.int r11)) M9 ∧ ((r8 = (r11 : Int32) → At_L_law_1013 G v3 M9) ∧ (¬ (r8 = (r11 : Int32)) → False))))) : At_L_law_312 G v3 M := by
  unfold At_L_law_312
  refine e_aload_n (pc := 312) g 1 dL_law_312 rfl ?_
  refine e_aload_n (pc := 313) g 0 dL_law_313 rfl ?_
  refine e_iload_n (pc := 314) g 3 dL_law_314 rfl ?_
  refine e_iconst (pc := 315) g 1 dL_law_315 kc_1 ?_
  refine e_iadd (pc := 316) g dL_law_316 ?_
  obtain ⟨o1, h⟩ := h
  refine e_sld (pc := 317) g lx o1 dL_law_317 ?_
  refine e_aload_n (pc := 318) g 0 dL_law_318 rfl ?_
  refine e_iload_n (pc := 319) g 3 dL_law_319 rfl ?_
  refine e_iconst (pc := 320) g 2 dL_law_320 kc_2 ?_
  refine e_iadd (pc := 321) g dL_law_321 ?_
  obtain ⟨o2, h⟩ := h
  refine e_sld (pc := 322) g lx o2 dL_law_322 ?_
  refine e_aload_n (pc := 323) g 0 dL_law_323 rfl ?_
  refine e_iload_n (pc := 324) g 3 dL_law_324 rfl ?_
  refine e_iconst (pc := 325) g 3 dL_law_325 kc_3 ?_
  refine e_iadd (pc := 326) g dL_law_326 ?_
  obtain ⟨o3, h⟩ := h
  refine e_sld (pc := 327) g lx o3 dL_law_327 ?_
  refine e_aload_n (pc := 328) g 0 dL_law_328 rfl ?_
  refine e_iload_n (pc := 329) g 3 dL_law_329 rfl ?_
  refine e_iconst (pc := 330) g 4 dL_law_330 kc_4 ?_
  refine e_iadd (pc := 331) g dL_law_331 ?_
  obtain ⟨o4, h⟩ := h
  refine e_sld (pc := 332) g lx o4 dL_law_332 ?_
  refine e_aload_n (pc := 333) g 0 dL_law_333 rfl ?_
  refine e_iload_n (pc := 334) g 3 dL_law_334 rfl ?_
  refine e_iconst (pc := 335) g 5 dL_law_335 kc_5 ?_
  refine e_iadd (pc := 336) g dL_law_336 ?_
  obtain ⟨o5, h⟩ := h
  refine e_sld (pc := 337) g lx o5 dL_law_337 ?_
  obtain ⟨r8, M6, f7, h⟩ := h
  refine e_callV (As := [.int (xs (v3 + 1).toNatClampNeg), .int (xs (v3 + 2).toNatClampNeg), .int (xs (v3 + 3).toNatClampNeg), .int (xs (v3 + 4).toNatClampNeg), .int (xs (v3 + 5).toNatClampNeg)]) (S := []) (pc := 338) g ok_X9_pump ml_L_32 sh_0 ⟨_, rfl, rfl⟩ f7 (by omega) rfl (Nat.le_of_ble_eq_true rfl) dL_law_338 ?_
  refine e_to (S' := [.int r8]) rfl rfl rfl ?_
  refine e_aload_n (pc := 341) g 2 dL_law_341 rfl ?_
  refine e_aload_n (pc := 342) g 0 dL_law_342 rfl ?_
  refine e_iload_n (pc := 343) g 3 dL_law_343 rfl ?_
  refine e_iconst (pc := 344) g 1 dL_law_344 kc_1 ?_
  refine e_iadd (pc := 345) g dL_law_345 ?_
  refine e_sld (pc := 346) g lx o1 dL_law_346 ?_
  refine e_aload_n (pc := 347) g 0 dL_law_347 rfl ?_
  refine e_iload_n (pc := 348) g 3 dL_law_348 rfl ?_
  refine e_iconst (pc := 349) g 2 dL_law_349 kc_2 ?_
  refine e_iadd (pc := 350) g dL_law_350 ?_
  refine e_sld (pc := 351) g lx o2 dL_law_351 ?_
  refine e_aload_n (pc := 352) g 0 dL_law_352 rfl ?_
  refine e_iload_n (pc := 353) g 3 dL_law_353 rfl ?_
  refine e_iconst (pc := 354) g 3 dL_law_354 kc_3 ?_
  refine e_iadd (pc := 355) g dL_law_355 ?_
  refine e_sld (pc := 356) g lx o3 dL_law_356 ?_
  refine e_aload_n (pc := 357) g 0 dL_law_357 rfl ?_
  refine e_iload_n (pc := 358) g 3 dL_law_358 rfl ?_
  refine e_iconst (pc := 359) g 4 dL_law_359 kc_4 ?_
  refine e_iadd (pc := 360) g dL_law_360 ?_
  refine e_sld (pc := 361) g lx o4 dL_law_361 ?_
  refine e_aload_n (pc := 362) g 0 dL_law_362 rfl ?_
  refine e_iload_n (pc := 363) g 3 dL_law_363 rfl ?_
  refine e_iconst (pc := 364) g 5 dL_law_364 kc_5 ?_
  refine e_iadd (pc := 365) g dL_law_365 ?_
  refine e_sld (pc := 366) g lx o5 dL_law_366 ?_
  obtain ⟨r11, M9, f10, h⟩ := h
  refine e_callV (As := [.int (xs (v3 + 1).toNatClampNeg), .int (xs (v3 + 2).toNatClampNeg), .int (xs (v3 + 3).toNatClampNeg), .int (xs (v3 + 4).toNatClampNeg), .int (xs (v3 + 5).toNatClampNeg)]) (S := [.int r8]) (pc := 367) g ok_X10_pump ml_L_36 sh_72 ⟨_, rfl, rfl⟩ f10 (by omega) rfl (Nat.le_of_ble_eq_true rfl) dL_law_367 ?_
  refine e_to (S' := [.int r11, .int r8]) rfl rfl rfl ?_
  refine e_icmp_eq (pc := 370) g 1013 dL_law_370 (by decide) (fun c12 => ?_) (fun c12 => ?_)
  · have h := h.1 c12
    exact h
  · have h := h.2 c12
    refine e_iconst (pc := 373) g 0 dL_law_373 kc_0 ?_
    exact h.elim
set_option maxHeartbeats 4000000 in
set_option maxRecDepth 100000 in
theorem b_L_law_375 {G : GC} {n L0 : Nat} {xs : Nat → Int32} (g : Good G mL_law n) (lx : LX G L0 xs) (hn : 16 ≤ n)  (v3 : Int32)  (M : MM) (h : (vp_in (v3 + 1) L0) ∧ (vp_in (v3 + 2) L0) ∧ (∃ (r5 : Int32) (M3 : MM), Fn 2 mX9_sluice [.ref 0, .int (xs (v3 + 1).toNatClampNeg), .int (xs (v3 + 2).toNatClampNeg)] M (some (.int r5)) M3 ∧ (∃ (r8 : Int32) (M6 : MM), Fn 3 mX10_sluice [.ref 72, .int (xs (v3 + 1).toNatClampNeg), .int (xs (v3 + 2).toNatClampNeg)] M3 (some (.int r8)) M6 ∧ ((r5 = (r8 : Int32) → At_L_law_1013 G v3 M6) ∧ (¬ (r5 = (r8 : Int32)) → False))))) : At_L_law_375 G v3 M := by
  unfold At_L_law_375
  refine e_aload_n (pc := 375) g 1 dL_law_375 rfl ?_
  refine e_aload_n (pc := 376) g 0 dL_law_376 rfl ?_
  refine e_iload_n (pc := 377) g 3 dL_law_377 rfl ?_
  refine e_iconst (pc := 378) g 1 dL_law_378 kc_1 ?_
  refine e_iadd (pc := 379) g dL_law_379 ?_
  obtain ⟨o1, h⟩ := h
  refine e_sld (pc := 380) g lx o1 dL_law_380 ?_
  refine e_aload_n (pc := 381) g 0 dL_law_381 rfl ?_
  refine e_iload_n (pc := 382) g 3 dL_law_382 rfl ?_
  refine e_iconst (pc := 383) g 2 dL_law_383 kc_2 ?_
  refine e_iadd (pc := 384) g dL_law_384 ?_
  obtain ⟨o2, h⟩ := h
  refine e_sld (pc := 385) g lx o2 dL_law_385 ?_
  obtain ⟨r5, M3, f4, h⟩ := h
  refine e_callV (As := [.int (xs (v3 + 1).toNatClampNeg), .int (xs (v3 + 2).toNatClampNeg)]) (S := []) (pc := 386) g ok_X9_sluice ml_L_37 sh_0 ⟨_, rfl, rfl⟩ f4 (by omega) rfl (Nat.le_of_ble_eq_true rfl) dL_law_386 ?_
  refine e_to (S' := [.int r5]) rfl rfl rfl ?_
  refine e_aload_n (pc := 389) g 2 dL_law_389 rfl ?_
  refine e_aload_n (pc := 390) g 0 dL_law_390 rfl ?_
  refine e_iload_n (pc := 391) g 3 dL_law_391 rfl ?_
  refine e_iconst (pc := 392) g 1 dL_law_392 kc_1 ?_
  refine e_iadd (pc := 393) g dL_law_393 ?_
  refine e_sld (pc := 394) g lx o1 dL_law_394 ?_
  refine e_aload_n (pc := 395) g 0 dL_law_395 rfl ?_
  refine e_iload_n (pc := 396) g 3 dL_law_396 rfl ?_
  refine e_iconst (pc := 397) g 2 dL_law_397 kc_2 ?_
  refine e_iadd (pc := 398) g dL_law_398 ?_
  refine e_sld (pc := 399) g lx o2 dL_law_399 ?_
  obtain ⟨r8, M6, f7, h⟩ := h
  refine e_callV (As := [.int (xs (v3 + 1).toNatClampNeg), .int (xs (v3 + 2).toNatClampNeg)]) (S := [.int r5]) (pc := 400) g ok_X10_sluice ml_L_40 sh_72 ⟨_, rfl, rfl⟩ f7 (by omega) rfl (Nat.le_of_ble_eq_true rfl) dL_law_400 ?_
  refine e_to (S' := [.int r8, .int r5]) rfl rfl rfl ?_
  refine e_icmp_eq (pc := 403) g 1013 dL_law_403 (by decide) (fun c9 => ?_) (fun c9 => ?_)
  · have h := h.1 c9
    exact h
  · have h := h.2 c9
    refine e_iconst (pc := 406) g 0 dL_law_406 kc_0 ?_
    exact h.elim
set_option maxHeartbeats 4000000 in
set_option maxRecDepth 100000 in
theorem b_L_law_408 {G : GC} {n L0 : Nat} {xs : Nat → Int32} (g : Good G mL_law n) (lx : LX G L0 xs) (hn : 16 ≤ n)  (v3 : Int32)  (M : MM) (h : (vp_in (v3 + 1) L0) ∧ (vp_in (v3 + 2) L0) ∧ (∃ (r6 : Int32) (M4 : MM), Fn 5 mX9_turn [.ref 0, .int (xs (v3 + 1).toNatClampNeg), .int (if (xs (v3 + 2).toNatClampNeg) = (0 : Int32) then 0 else 1)] M (some (.int r6)) M4 ∧ (∃ (r10 : Int32) (M8 : MM), Fn 2 mX10_turn [.ref 72, .int (xs (v3 + 1).toNatClampNeg), .int (if (xs (v3 + 2).toNatClampNeg) = (0 : Int32) then 0 else 1)] M4 (some (.int r10)) M8 ∧ ((r6 = (r10 : Int32) → At_L_law_1013 G v3 M8) ∧ (¬ (r6 = (r10 : Int32)) → False))))) : At_L_law_408 G v3 M := by
  unfold At_L_law_408
  refine e_aload_n (pc := 408) g 1 dL_law_408 rfl ?_
  refine e_aload_n (pc := 409) g 0 dL_law_409 rfl ?_
  refine e_iload_n (pc := 410) g 3 dL_law_410 rfl ?_
  refine e_iconst (pc := 411) g 1 dL_law_411 kc_1 ?_
  refine e_iadd (pc := 412) g dL_law_412 ?_
  obtain ⟨o1, h⟩ := h
  refine e_sld (pc := 413) g lx o1 dL_law_413 ?_
  refine e_aload_n (pc := 414) g 0 dL_law_414 rfl ?_
  refine e_iload_n (pc := 415) g 3 dL_law_415 rfl ?_
  refine e_iconst (pc := 416) g 2 dL_law_416 kc_2 ?_
  refine e_iadd (pc := 417) g dL_law_417 ?_
  obtain ⟨o2, h⟩ := h
  refine e_sld (pc := 418) g lx o2 dL_law_418 ?_
  have hj : Ev G 427 [(0, .ref 107), (1, .ref 0), (2, .ref 72), (3, .int v3)] [.int (if (xs (v3 + 2).toNatClampNeg) = (0 : Int32) then 0 else 1), .int (xs (v3 + 1).toNatClampNeg), .ref 0] M := by
    obtain ⟨r6, M4, f5, h⟩ := h
    refine e_callV (As := [.int (xs (v3 + 1).toNatClampNeg), .int (if (xs (v3 + 2).toNatClampNeg) = (0 : Int32) then 0 else 1)]) (S := []) (pc := 427) g ok_X9_turn ml_L_41 sh_0 ⟨_, rfl, rfl⟩ f5 (by omega) rfl (Nat.le_of_ble_eq_true rfl) dL_law_427 ?_
    refine e_to (S' := [.int r6]) rfl rfl rfl ?_
    refine e_aload_n (pc := 430) g 2 dL_law_430 rfl ?_
    refine e_aload_n (pc := 431) g 0 dL_law_431 rfl ?_
    refine e_iload_n (pc := 432) g 3 dL_law_432 rfl ?_
    refine e_iconst (pc := 433) g 1 dL_law_433 kc_1 ?_
    refine e_iadd (pc := 434) g dL_law_434 ?_
    refine e_sld (pc := 435) g lx o1 dL_law_435 ?_
    refine e_aload_n (pc := 436) g 0 dL_law_436 rfl ?_
    refine e_iload_n (pc := 437) g 3 dL_law_437 rfl ?_
    refine e_iconst (pc := 438) g 2 dL_law_438 kc_2 ?_
    refine e_iadd (pc := 439) g dL_law_439 ?_
    refine e_sld (pc := 440) g lx o2 dL_law_440 ?_
    have hj : Ev G 449 [(0, .ref 107), (1, .ref 0), (2, .ref 72), (3, .int v3)] [.int (if (xs (v3 + 2).toNatClampNeg) = (0 : Int32) then 0 else 1), .int (xs (v3 + 1).toNatClampNeg), .ref 72, .int r6] M4 := by
      obtain ⟨r10, M8, f9, h⟩ := h
      refine e_callV (As := [.int (xs (v3 + 1).toNatClampNeg), .int (if (xs (v3 + 2).toNatClampNeg) = (0 : Int32) then 0 else 1)]) (S := [.int r6]) (pc := 449) g ok_X10_turn ml_L_45 sh_72 ⟨_, rfl, rfl⟩ f9 (by omega) rfl (Nat.le_of_ble_eq_true rfl) dL_law_449 ?_
      refine e_to (S' := [.int r10, .int r6]) rfl rfl rfl ?_
      refine e_icmp_eq (pc := 452) g 1013 dL_law_452 (by decide) (fun c11 => ?_) (fun c11 => ?_)
      · have h := h.1 c11
        exact h
      · have h := h.2 c11
        refine e_iconst (pc := 455) g 0 dL_law_455 kc_0 ?_
        exact h.elim
    refine e_if_eq (pc := 441) g 448 dL_law_441 (by decide) (fun c7 => ?_) (fun c7 => ?_)
    · rw [if_pos c7] at hj
      refine e_iconst (pc := 448) g 0 dL_law_448 kc_0 ?_
      exact hj
    · rw [if_neg c7] at hj
      refine e_iconst (pc := 444) g 1 dL_law_444 kc_1 ?_
      refine e_goto (pc := 445) g 449 dL_law_445 (by decide) ?_
      exact hj
  refine e_if_eq (pc := 419) g 426 dL_law_419 (by decide) (fun c3 => ?_) (fun c3 => ?_)
  · rw [if_pos c3] at hj
    refine e_iconst (pc := 426) g 0 dL_law_426 kc_0 ?_
    exact hj
  · rw [if_neg c3] at hj
    refine e_iconst (pc := 422) g 1 dL_law_422 kc_1 ?_
    refine e_goto (pc := 423) g 427 dL_law_423 (by decide) ?_
    exact hj
set_option maxHeartbeats 4000000 in
set_option maxRecDepth 100000 in
theorem b_L_law_457 {G : GC} {n L0 : Nat} {xs : Nat → Int32} (g : Good G mL_law n) (lx : LX G L0 xs) (hn : 16 ≤ n)  (v3 : Int32)  (M : MM) (h : (vp_in (v3 + 1) L0) ∧ (vp_in (v3 + 2) L0) ∧ (∃ (r6 : Int32) (M4 : MM), Fn 2 mX9_open [.ref 0, .int (xs (v3 + 1).toNatClampNeg), .int (if (xs (v3 + 2).toNatClampNeg) = (0 : Int32) then 0 else 1)] M (some (.int r6)) M4 ∧ (∃ (r10 : Int32) (M8 : MM), Fn 2 mX10_open [.ref 72, .int (xs (v3 + 1).toNatClampNeg), .int (if (xs (v3 + 2).toNatClampNeg) = (0 : Int32) then 0 else 1)] M4 (some (.int r10)) M8 ∧ ((r6 = (r10 : Int32) → At_L_law_1013 G v3 M8) ∧ (¬ (r6 = (r10 : Int32)) → False))))) : At_L_law_457 G v3 M := by
  unfold At_L_law_457
  refine e_aload_n (pc := 457) g 1 dL_law_457 rfl ?_
  refine e_aload_n (pc := 458) g 0 dL_law_458 rfl ?_
  refine e_iload_n (pc := 459) g 3 dL_law_459 rfl ?_
  refine e_iconst (pc := 460) g 1 dL_law_460 kc_1 ?_
  refine e_iadd (pc := 461) g dL_law_461 ?_
  obtain ⟨o1, h⟩ := h
  refine e_sld (pc := 462) g lx o1 dL_law_462 ?_
  refine e_aload_n (pc := 463) g 0 dL_law_463 rfl ?_
  refine e_iload_n (pc := 464) g 3 dL_law_464 rfl ?_
  refine e_iconst (pc := 465) g 2 dL_law_465 kc_2 ?_
  refine e_iadd (pc := 466) g dL_law_466 ?_
  obtain ⟨o2, h⟩ := h
  refine e_sld (pc := 467) g lx o2 dL_law_467 ?_
  have hj : Ev G 476 [(0, .ref 107), (1, .ref 0), (2, .ref 72), (3, .int v3)] [.int (if (xs (v3 + 2).toNatClampNeg) = (0 : Int32) then 0 else 1), .int (xs (v3 + 1).toNatClampNeg), .ref 0] M := by
    obtain ⟨r6, M4, f5, h⟩ := h
    refine e_callV (As := [.int (xs (v3 + 1).toNatClampNeg), .int (if (xs (v3 + 2).toNatClampNeg) = (0 : Int32) then 0 else 1)]) (S := []) (pc := 476) g ok_X9_open ml_L_46 sh_0 ⟨_, rfl, rfl⟩ f5 (by omega) rfl (Nat.le_of_ble_eq_true rfl) dL_law_476 ?_
    refine e_to (S' := [.int r6]) rfl rfl rfl ?_
    refine e_aload_n (pc := 479) g 2 dL_law_479 rfl ?_
    refine e_aload_n (pc := 480) g 0 dL_law_480 rfl ?_
    refine e_iload_n (pc := 481) g 3 dL_law_481 rfl ?_
    refine e_iconst (pc := 482) g 1 dL_law_482 kc_1 ?_
    refine e_iadd (pc := 483) g dL_law_483 ?_
    refine e_sld (pc := 484) g lx o1 dL_law_484 ?_
    refine e_aload_n (pc := 485) g 0 dL_law_485 rfl ?_
    refine e_iload_n (pc := 486) g 3 dL_law_486 rfl ?_
    refine e_iconst (pc := 487) g 2 dL_law_487 kc_2 ?_
    refine e_iadd (pc := 488) g dL_law_488 ?_
    refine e_sld (pc := 489) g lx o2 dL_law_489 ?_
    have hj : Ev G 498 [(0, .ref 107), (1, .ref 0), (2, .ref 72), (3, .int v3)] [.int (if (xs (v3 + 2).toNatClampNeg) = (0 : Int32) then 0 else 1), .int (xs (v3 + 1).toNatClampNeg), .ref 72, .int r6] M4 := by
      obtain ⟨r10, M8, f9, h⟩ := h
      refine e_callV (As := [.int (xs (v3 + 1).toNatClampNeg), .int (if (xs (v3 + 2).toNatClampNeg) = (0 : Int32) then 0 else 1)]) (S := [.int r6]) (pc := 498) g ok_X10_open ml_L_49 sh_72 ⟨_, rfl, rfl⟩ f9 (by omega) rfl (Nat.le_of_ble_eq_true rfl) dL_law_498 ?_
      refine e_to (S' := [.int r10, .int r6]) rfl rfl rfl ?_
      refine e_icmp_eq (pc := 501) g 1013 dL_law_501 (by decide) (fun c11 => ?_) (fun c11 => ?_)
      · have h := h.1 c11
        exact h
      · have h := h.2 c11
        refine e_iconst (pc := 504) g 0 dL_law_504 kc_0 ?_
        exact h.elim
    refine e_if_eq (pc := 490) g 497 dL_law_490 (by decide) (fun c7 => ?_) (fun c7 => ?_)
    · rw [if_pos c7] at hj
      refine e_iconst (pc := 497) g 0 dL_law_497 kc_0 ?_
      exact hj
    · rw [if_neg c7] at hj
      refine e_iconst (pc := 493) g 1 dL_law_493 kc_1 ?_
      refine e_goto (pc := 494) g 498 dL_law_494 (by decide) ?_
      exact hj
  refine e_if_eq (pc := 468) g 475 dL_law_468 (by decide) (fun c3 => ?_) (fun c3 => ?_)
  · rw [if_pos c3] at hj
    refine e_iconst (pc := 475) g 0 dL_law_475 kc_0 ?_
    exact hj
  · rw [if_neg c3] at hj
    refine e_iconst (pc := 471) g 1 dL_law_471 kc_1 ?_
    refine e_goto (pc := 472) g 476 dL_law_472 (by decide) ?_
    exact hj
set_option maxHeartbeats 4000000 in
set_option maxRecDepth 100000 in
theorem b_L_law_506 {G : GC} {n L0 : Nat} {xs : Nat → Int32} (g : Good G mL_law n) (lx : LX G L0 xs) (hn : 16 ≤ n)  (v3 : Int32)  (M : MM) (h : (vp_in (v3 + 1) L0) ∧ (vp_in (v3 + 2) L0) ∧ (∃ (r5 : Int32) (M3 : MM), Fn 3 mX9_tide [.ref 0, .int (xs (v3 + 1).toNatClampNeg), .int (xs (v3 + 2).toNatClampNeg)] M (some (.int r5)) M3 ∧ (∃ (r8 : Int32) (M6 : MM), Fn 2 mX10_tide [.ref 72, .int (xs (v3 + 1).toNatClampNeg), .int (xs (v3 + 2).toNatClampNeg)] M3 (some (.int r8)) M6 ∧ ((r5 = (r8 : Int32) → At_L_law_1013 G v3 M6) ∧ (¬ (r5 = (r8 : Int32)) → False))))) : At_L_law_506 G v3 M := by
  unfold At_L_law_506
  refine e_aload_n (pc := 506) g 1 dL_law_506 rfl ?_
  refine e_aload_n (pc := 507) g 0 dL_law_507 rfl ?_
  refine e_iload_n (pc := 508) g 3 dL_law_508 rfl ?_
  refine e_iconst (pc := 509) g 1 dL_law_509 kc_1 ?_
  refine e_iadd (pc := 510) g dL_law_510 ?_
  obtain ⟨o1, h⟩ := h
  refine e_sld (pc := 511) g lx o1 dL_law_511 ?_
  refine e_aload_n (pc := 512) g 0 dL_law_512 rfl ?_
  refine e_iload_n (pc := 513) g 3 dL_law_513 rfl ?_
  refine e_iconst (pc := 514) g 2 dL_law_514 kc_2 ?_
  refine e_iadd (pc := 515) g dL_law_515 ?_
  obtain ⟨o2, h⟩ := h
  refine e_sld (pc := 516) g lx o2 dL_law_516 ?_
  obtain ⟨r5, M3, f4, h⟩ := h
  refine e_callV (As := [.int (xs (v3 + 1).toNatClampNeg), .int (xs (v3 + 2).toNatClampNeg)]) (S := []) (pc := 517) g ok_X9_tide ml_L_50 sh_0 ⟨_, rfl, rfl⟩ f4 (by omega) rfl (Nat.le_of_ble_eq_true rfl) dL_law_517 ?_
  refine e_to (S' := [.int r5]) rfl rfl rfl ?_
  refine e_aload_n (pc := 520) g 2 dL_law_520 rfl ?_
  refine e_aload_n (pc := 521) g 0 dL_law_521 rfl ?_
  refine e_iload_n (pc := 522) g 3 dL_law_522 rfl ?_
  refine e_iconst (pc := 523) g 1 dL_law_523 kc_1 ?_
  refine e_iadd (pc := 524) g dL_law_524 ?_
  refine e_sld (pc := 525) g lx o1 dL_law_525 ?_
  refine e_aload_n (pc := 526) g 0 dL_law_526 rfl ?_
  refine e_iload_n (pc := 527) g 3 dL_law_527 rfl ?_
  refine e_iconst (pc := 528) g 2 dL_law_528 kc_2 ?_
  refine e_iadd (pc := 529) g dL_law_529 ?_
  refine e_sld (pc := 530) g lx o2 dL_law_530 ?_
  obtain ⟨r8, M6, f7, h⟩ := h
  refine e_callV (As := [.int (xs (v3 + 1).toNatClampNeg), .int (xs (v3 + 2).toNatClampNeg)]) (S := [.int r5]) (pc := 531) g ok_X10_tide ml_L_53 sh_72 ⟨_, rfl, rfl⟩ f7 (by omega) rfl (Nat.le_of_ble_eq_true rfl) dL_law_531 ?_
  refine e_to (S' := [.int r8, .int r5]) rfl rfl rfl ?_
  refine e_icmp_eq (pc := 534) g 1013 dL_law_534 (by decide) (fun c9 => ?_) (fun c9 => ?_)
  · have h := h.1 c9
    exact h
  · have h := h.2 c9
    refine e_iconst (pc := 537) g 0 dL_law_537 kc_0 ?_
    exact h.elim
set_option maxHeartbeats 4000000 in
set_option maxRecDepth 100000 in
theorem b_L_law_539 {G : GC} {n L0 : Nat} {xs : Nat → Int32} (g : Good G mL_law n) (lx : LX G L0 xs) (hn : 16 ≤ n)  (v3 : Int32)  (M : MM) (h : (vp_in (v3 + 1) L0) ∧ (vp_in (v3 + 2) L0) ∧ (∃ (r5 : Int32) (M3 : MM), Fn 3 mX9_price [.ref 0, .int (xs (v3 + 1).toNatClampNeg), .int (xs (v3 + 2).toNatClampNeg)] M (some (.int r5)) M3 ∧ (∃ (r8 : Int32) (M6 : MM), Fn 2 mX10_price [.ref 72, .int (xs (v3 + 1).toNatClampNeg), .int (xs (v3 + 2).toNatClampNeg)] M3 (some (.int r8)) M6 ∧ ((r5 = (r8 : Int32) → At_L_law_1013 G v3 M6) ∧ (¬ (r5 = (r8 : Int32)) → False))))) : At_L_law_539 G v3 M := by
  unfold At_L_law_539
  refine e_aload_n (pc := 539) g 1 dL_law_539 rfl ?_
  refine e_aload_n (pc := 540) g 0 dL_law_540 rfl ?_
  refine e_iload_n (pc := 541) g 3 dL_law_541 rfl ?_
  refine e_iconst (pc := 542) g 1 dL_law_542 kc_1 ?_
  refine e_iadd (pc := 543) g dL_law_543 ?_
  obtain ⟨o1, h⟩ := h
  refine e_sld (pc := 544) g lx o1 dL_law_544 ?_
  refine e_aload_n (pc := 545) g 0 dL_law_545 rfl ?_
  refine e_iload_n (pc := 546) g 3 dL_law_546 rfl ?_
  refine e_iconst (pc := 547) g 2 dL_law_547 kc_2 ?_
  refine e_iadd (pc := 548) g dL_law_548 ?_
  obtain ⟨o2, h⟩ := h
  refine e_sld (pc := 549) g lx o2 dL_law_549 ?_
  obtain ⟨r5, M3, f4, h⟩ := h
  refine e_callV (As := [.int (xs (v3 + 1).toNatClampNeg), .int (xs (v3 + 2).toNatClampNeg)]) (S := []) (pc := 550) g ok_X9_price ml_L_54 sh_0 ⟨_, rfl, rfl⟩ f4 (by omega) rfl (Nat.le_of_ble_eq_true rfl) dL_law_550 ?_
  refine e_to (S' := [.int r5]) rfl rfl rfl ?_
  refine e_aload_n (pc := 553) g 2 dL_law_553 rfl ?_
  refine e_aload_n (pc := 554) g 0 dL_law_554 rfl ?_
  refine e_iload_n (pc := 555) g 3 dL_law_555 rfl ?_
  refine e_iconst (pc := 556) g 1 dL_law_556 kc_1 ?_
  refine e_iadd (pc := 557) g dL_law_557 ?_
  refine e_sld (pc := 558) g lx o1 dL_law_558 ?_
  refine e_aload_n (pc := 559) g 0 dL_law_559 rfl ?_
  refine e_iload_n (pc := 560) g 3 dL_law_560 rfl ?_
  refine e_iconst (pc := 561) g 2 dL_law_561 kc_2 ?_
  refine e_iadd (pc := 562) g dL_law_562 ?_
  refine e_sld (pc := 563) g lx o2 dL_law_563 ?_
  obtain ⟨r8, M6, f7, h⟩ := h
  refine e_callV (As := [.int (xs (v3 + 1).toNatClampNeg), .int (xs (v3 + 2).toNatClampNeg)]) (S := [.int r5]) (pc := 564) g ok_X10_price ml_L_57 sh_72 ⟨_, rfl, rfl⟩ f7 (by omega) rfl (Nat.le_of_ble_eq_true rfl) dL_law_564 ?_
  refine e_to (S' := [.int r8, .int r5]) rfl rfl rfl ?_
  refine e_icmp_eq (pc := 567) g 1013 dL_law_567 (by decide) (fun c9 => ?_) (fun c9 => ?_)
  · have h := h.1 c9
    exact h
  · have h := h.2 c9
    refine e_iconst (pc := 570) g 0 dL_law_570 kc_0 ?_
    exact h.elim
set_option maxHeartbeats 4000000 in
set_option maxRecDepth 100000 in
theorem b_L_law_572 {G : GC} {n L0 : Nat} {xs : Nat → Int32} (g : Good G mL_law n) (lx : LX G L0 xs) (hn : 16 ≤ n)  (v3 : Int32)  (M : MM) (h : (vp_in (v3 + 1) L0) ∧ (∃ (r4 : Int32) (M2 : MM), Fn 6 mX9_step [.ref 0, .int (xs (v3 + 1).toNatClampNeg)] M (some (.int r4)) M2 ∧ (∃ (r7 : Int32) (M5 : MM), Fn 5 mX10_step [.ref 72, .int (xs (v3 + 1).toNatClampNeg)] M2 (some (.int r7)) M5 ∧ ((r4 = (r7 : Int32) → At_L_law_1013 G v3 M5) ∧ (¬ (r4 = (r7 : Int32)) → False))))) : At_L_law_572 G v3 M := by
  unfold At_L_law_572
  refine e_aload_n (pc := 572) g 1 dL_law_572 rfl ?_
  refine e_aload_n (pc := 573) g 0 dL_law_573 rfl ?_
  refine e_iload_n (pc := 574) g 3 dL_law_574 rfl ?_
  refine e_iconst (pc := 575) g 1 dL_law_575 kc_1 ?_
  refine e_iadd (pc := 576) g dL_law_576 ?_
  obtain ⟨o1, h⟩ := h
  refine e_sld (pc := 577) g lx o1 dL_law_577 ?_
  obtain ⟨r4, M2, f3, h⟩ := h
  refine e_callV (As := [.int (xs (v3 + 1).toNatClampNeg)]) (S := []) (pc := 578) g ok_X9_step ml_L_58 sh_0 ⟨_, rfl, rfl⟩ f3 (by omega) rfl (Nat.le_of_ble_eq_true rfl) dL_law_578 ?_
  refine e_to (S' := [.int r4]) rfl rfl rfl ?_
  refine e_aload_n (pc := 581) g 2 dL_law_581 rfl ?_
  refine e_aload_n (pc := 582) g 0 dL_law_582 rfl ?_
  refine e_iload_n (pc := 583) g 3 dL_law_583 rfl ?_
  refine e_iconst (pc := 584) g 1 dL_law_584 kc_1 ?_
  refine e_iadd (pc := 585) g dL_law_585 ?_
  refine e_sld (pc := 586) g lx o1 dL_law_586 ?_
  obtain ⟨r7, M5, f6, h⟩ := h
  refine e_callV (As := [.int (xs (v3 + 1).toNatClampNeg)]) (S := [.int r4]) (pc := 587) g ok_X10_step ml_L_62 sh_72 ⟨_, rfl, rfl⟩ f6 (by omega) rfl (Nat.le_of_ble_eq_true rfl) dL_law_587 ?_
  refine e_to (S' := [.int r7, .int r4]) rfl rfl rfl ?_
  refine e_icmp_eq (pc := 590) g 1013 dL_law_590 (by decide) (fun c8 => ?_) (fun c8 => ?_)
  · have h := h.1 c8
    exact h
  · have h := h.2 c8
    refine e_iconst (pc := 593) g 0 dL_law_593 kc_0 ?_
    exact h.elim
set_option maxHeartbeats 4000000 in
set_option maxRecDepth 100000 in
theorem b_L_law_595 {G : GC} {n L0 : Nat} {xs : Nat → Int32} (g : Good G mL_law n) (lx : LX G L0 xs) (hn : 16 ≤ n)  (v3 : Int32)  (M : MM) (h : (vp_in (v3 + 1) L0) ∧ (vp_in (v3 + 2) L0) ∧ (∃ (r5 : Int32) (M3 : MM), Fn 2 mX9_passed [.ref 0, .int (xs (v3 + 1).toNatClampNeg), .int (xs (v3 + 2).toNatClampNeg)] M (some (.int r5)) M3 ∧ (∃ (r8 : Int32) (M6 : MM), Fn 2 mX10_passed [.ref 72, .int (xs (v3 + 1).toNatClampNeg), .int (xs (v3 + 2).toNatClampNeg)] M3 (some (.int r8)) M6 ∧ ((r5 = (r8 : Int32) → At_L_law_1013 G v3 M6) ∧ (¬ (r5 = (r8 : Int32)) → False))))) : At_L_law_595 G v3 M := by
  unfold At_L_law_595
  refine e_aload_n (pc := 595) g 1 dL_law_595 rfl ?_
  refine e_aload_n (pc := 596) g 0 dL_law_596 rfl ?_
  refine e_iload_n (pc := 597) g 3 dL_law_597 rfl ?_
  refine e_iconst (pc := 598) g 1 dL_law_598 kc_1 ?_
  refine e_iadd (pc := 599) g dL_law_599 ?_
  obtain ⟨o1, h⟩ := h
  refine e_sld (pc := 600) g lx o1 dL_law_600 ?_
  refine e_aload_n (pc := 601) g 0 dL_law_601 rfl ?_
  refine e_iload_n (pc := 602) g 3 dL_law_602 rfl ?_
  refine e_iconst (pc := 603) g 2 dL_law_603 kc_2 ?_
  refine e_iadd (pc := 604) g dL_law_604 ?_
  obtain ⟨o2, h⟩ := h
  refine e_sld (pc := 605) g lx o2 dL_law_605 ?_
  obtain ⟨r5, M3, f4, h⟩ := h
  refine e_callV (As := [.int (xs (v3 + 1).toNatClampNeg), .int (xs (v3 + 2).toNatClampNeg)]) (S := []) (pc := 606) g ok_X9_passed ml_L_63 sh_0 ⟨_, rfl, rfl⟩ f4 (by omega) rfl (Nat.le_of_ble_eq_true rfl) dL_law_606 ?_
  refine e_to (S' := [.int r5]) rfl rfl rfl ?_
  refine e_aload_n (pc := 609) g 2 dL_law_609 rfl ?_
  refine e_aload_n (pc := 610) g 0 dL_law_610 rfl ?_
  refine e_iload_n (pc := 611) g 3 dL_law_611 rfl ?_
  refine e_iconst (pc := 612) g 1 dL_law_612 kc_1 ?_
  refine e_iadd (pc := 613) g dL_law_613 ?_
  refine e_sld (pc := 614) g lx o1 dL_law_614 ?_
  refine e_aload_n (pc := 615) g 0 dL_law_615 rfl ?_
  refine e_iload_n (pc := 616) g 3 dL_law_616 rfl ?_
  refine e_iconst (pc := 617) g 2 dL_law_617 kc_2 ?_
  refine e_iadd (pc := 618) g dL_law_618 ?_
  refine e_sld (pc := 619) g lx o2 dL_law_619 ?_
  obtain ⟨r8, M6, f7, h⟩ := h
  refine e_callV (As := [.int (xs (v3 + 1).toNatClampNeg), .int (xs (v3 + 2).toNatClampNeg)]) (S := [.int r5]) (pc := 620) g ok_X10_passed ml_L_66 sh_72 ⟨_, rfl, rfl⟩ f7 (by omega) rfl (Nat.le_of_ble_eq_true rfl) dL_law_620 ?_
  refine e_to (S' := [.int r8, .int r5]) rfl rfl rfl ?_
  refine e_icmp_eq (pc := 623) g 1013 dL_law_623 (by decide) (fun c9 => ?_) (fun c9 => ?_)
  · have h := h.1 c9
    exact h
  · have h := h.2 c9
    refine e_iconst (pc := 626) g 0 dL_law_626 kc_0 ?_
    exact h.elim
set_option maxHeartbeats 4000000 in
set_option maxRecDepth 100000 in
theorem b_L_law_628 {G : GC} {n L0 : Nat} {xs : Nat → Int32} (g : Good G mL_law n) (lx : LX G L0 xs) (hn : 16 ≤ n)  (v3 : Int32)  (M : MM) (h : (∃ (r3 : Int32) (M1 : MM), Fn 2 mX9_world [.ref 0] M (some (.int r3)) M1 ∧ (∃ (r6 : Int32) (M4 : MM), Fn 1 mX10_world [.ref 72] M1 (some (.int r6)) M4 ∧ ((r3 = (r6 : Int32) → At_L_law_1013 G v3 M4) ∧ (¬ (r3 = (r6 : Int32)) → False))))) : At_L_law_628 G v3 M := by
  unfold At_L_law_628
  refine e_aload_n (pc := 628) g 1 dL_law_628 rfl ?_
  obtain ⟨r3, M1, f2, h⟩ := h
  refine e_callV (As := []) (S := []) (pc := 629) g ok_X9_world ml_L_67 sh_0 ⟨_, rfl, rfl⟩ f2 (by omega) rfl (Nat.le_of_ble_eq_true rfl) dL_law_629 ?_
  refine e_to (S' := [.int r3]) rfl rfl rfl ?_
  refine e_aload_n (pc := 632) g 2 dL_law_632 rfl ?_
  obtain ⟨r6, M4, f5, h⟩ := h
  refine e_callV (As := []) (S := [.int r3]) (pc := 633) g ok_X10_world ml_L_71 sh_72 ⟨_, rfl, rfl⟩ f5 (by omega) rfl (Nat.le_of_ble_eq_true rfl) dL_law_633 ?_
  refine e_to (S' := [.int r6, .int r3]) rfl rfl rfl ?_
  refine e_icmp_eq (pc := 636) g 1013 dL_law_636 (by decide) (fun c7 => ?_) (fun c7 => ?_)
  · have h := h.1 c7
    exact h
  · have h := h.2 c7
    refine e_iconst (pc := 639) g 0 dL_law_639 kc_0 ?_
    exact h.elim
set_option maxHeartbeats 4000000 in
set_option maxRecDepth 100000 in
theorem b_L_law_641 {G : GC} {n L0 : Nat} {xs : Nat → Int32} (g : Good G mL_law n) (lx : LX G L0 xs) (hn : 16 ≤ n)  (v3 : Int32)  (M : MM) (h : (vp_in (v3 + 1) L0) ∧ (vp_in (v3 + 2) L0) ∧ (vp_in (v3 + 3) L0) ∧ (∃ (r6 : Int32) (M4 : MM), Fn 3 mX9_foretell [.ref 0, .int (xs (v3 + 1).toNatClampNeg), .int (xs (v3 + 2).toNatClampNeg), .int (xs (v3 + 3).toNatClampNeg)] M (some (.int r6)) M4 ∧ (∃ (r9 : Int32) (M7 : MM), Fn 2 mX10_foretell [.ref 72, .int (xs (v3 + 1).toNatClampNeg), .int (xs (v3 + 2).toNatClampNeg), .int (xs (v3 + 3).toNatClampNeg)] M4 (some (.int r9)) M7 ∧ ((r6 = (r9 : Int32) → At_L_law_1013 G v3 M7) ∧ (¬ (r6 = (r9 : Int32)) → False))))) : At_L_law_641 G v3 M := by
  unfold At_L_law_641
  refine e_aload_n (pc := 641) g 1 dL_law_641 rfl ?_
  refine e_aload_n (pc := 642) g 0 dL_law_642 rfl ?_
  refine e_iload_n (pc := 643) g 3 dL_law_643 rfl ?_
  refine e_iconst (pc := 644) g 1 dL_law_644 kc_1 ?_
  refine e_iadd (pc := 645) g dL_law_645 ?_
  obtain ⟨o1, h⟩ := h
  refine e_sld (pc := 646) g lx o1 dL_law_646 ?_
  refine e_aload_n (pc := 647) g 0 dL_law_647 rfl ?_
  refine e_iload_n (pc := 648) g 3 dL_law_648 rfl ?_
  refine e_iconst (pc := 649) g 2 dL_law_649 kc_2 ?_
  refine e_iadd (pc := 650) g dL_law_650 ?_
  obtain ⟨o2, h⟩ := h
  refine e_sld (pc := 651) g lx o2 dL_law_651 ?_
  refine e_aload_n (pc := 652) g 0 dL_law_652 rfl ?_
  refine e_iload_n (pc := 653) g 3 dL_law_653 rfl ?_
  refine e_iconst (pc := 654) g 3 dL_law_654 kc_3 ?_
  refine e_iadd (pc := 655) g dL_law_655 ?_
  obtain ⟨o3, h⟩ := h
  refine e_sld (pc := 656) g lx o3 dL_law_656 ?_
  obtain ⟨r6, M4, f5, h⟩ := h
  refine e_callV (As := [.int (xs (v3 + 1).toNatClampNeg), .int (xs (v3 + 2).toNatClampNeg), .int (xs (v3 + 3).toNatClampNeg)]) (S := []) (pc := 657) g ok_X9_foretell ml_L_72 sh_0 ⟨_, rfl, rfl⟩ f5 (by omega) rfl (Nat.le_of_ble_eq_true rfl) dL_law_657 ?_
  refine e_to (S' := [.int r6]) rfl rfl rfl ?_
  refine e_aload_n (pc := 660) g 2 dL_law_660 rfl ?_
  refine e_aload_n (pc := 661) g 0 dL_law_661 rfl ?_
  refine e_iload_n (pc := 662) g 3 dL_law_662 rfl ?_
  refine e_iconst (pc := 663) g 1 dL_law_663 kc_1 ?_
  refine e_iadd (pc := 664) g dL_law_664 ?_
  refine e_sld (pc := 665) g lx o1 dL_law_665 ?_
  refine e_aload_n (pc := 666) g 0 dL_law_666 rfl ?_
  refine e_iload_n (pc := 667) g 3 dL_law_667 rfl ?_
  refine e_iconst (pc := 668) g 2 dL_law_668 kc_2 ?_
  refine e_iadd (pc := 669) g dL_law_669 ?_
  refine e_sld (pc := 670) g lx o2 dL_law_670 ?_
  refine e_aload_n (pc := 671) g 0 dL_law_671 rfl ?_
  refine e_iload_n (pc := 672) g 3 dL_law_672 rfl ?_
  refine e_iconst (pc := 673) g 3 dL_law_673 kc_3 ?_
  refine e_iadd (pc := 674) g dL_law_674 ?_
  refine e_sld (pc := 675) g lx o3 dL_law_675 ?_
  obtain ⟨r9, M7, f8, h⟩ := h
  refine e_callV (As := [.int (xs (v3 + 1).toNatClampNeg), .int (xs (v3 + 2).toNatClampNeg), .int (xs (v3 + 3).toNatClampNeg)]) (S := [.int r6]) (pc := 676) g ok_X10_foretell ml_L_75 sh_72 ⟨_, rfl, rfl⟩ f8 (by omega) rfl (Nat.le_of_ble_eq_true rfl) dL_law_676 ?_
  refine e_to (S' := [.int r9, .int r6]) rfl rfl rfl ?_
  refine e_icmp_eq (pc := 679) g 1013 dL_law_679 (by decide) (fun c10 => ?_) (fun c10 => ?_)
  · have h := h.1 c10
    exact h
  · have h := h.2 c10
    refine e_iconst (pc := 682) g 0 dL_law_682 kc_0 ?_
    exact h.elim
set_option maxHeartbeats 4000000 in
set_option maxRecDepth 100000 in
theorem b_L_law_684 {G : GC} {n L0 : Nat} {xs : Nat → Int32} (g : Good G mL_law n) (lx : LX G L0 xs) (hn : 16 ≤ n)  (v3 : Int32)  (M : MM) (h : (vp_in (v3 + 1) L0) ∧ (∃ (r4 : Int32) (M2 : MM), Fn 15 mX9_plan [.ref 0, .int (xs (v3 + 1).toNatClampNeg)] M (some (.int r4)) M2 ∧ (∃ (r7 : Int32) (M5 : MM), Fn 5 mX10_plan [.ref 72, .int (xs (v3 + 1).toNatClampNeg)] M2 (some (.int r7)) M5 ∧ ((r4 = (r7 : Int32) → At_L_law_1013 G v3 M5) ∧ (¬ (r4 = (r7 : Int32)) → False))))) : At_L_law_684 G v3 M := by
  unfold At_L_law_684
  refine e_aload_n (pc := 684) g 1 dL_law_684 rfl ?_
  refine e_aload_n (pc := 685) g 0 dL_law_685 rfl ?_
  refine e_iload_n (pc := 686) g 3 dL_law_686 rfl ?_
  refine e_iconst (pc := 687) g 1 dL_law_687 kc_1 ?_
  refine e_iadd (pc := 688) g dL_law_688 ?_
  obtain ⟨o1, h⟩ := h
  refine e_sld (pc := 689) g lx o1 dL_law_689 ?_
  obtain ⟨r4, M2, f3, h⟩ := h
  refine e_callV (As := [.int (xs (v3 + 1).toNatClampNeg)]) (S := []) (pc := 690) g ok_X9_plan ml_L_76 sh_0 ⟨_, rfl, rfl⟩ f3 (by omega) rfl (Nat.le_of_ble_eq_true rfl) dL_law_690 ?_
  refine e_to (S' := [.int r4]) rfl rfl rfl ?_
  refine e_aload_n (pc := 693) g 2 dL_law_693 rfl ?_
  refine e_aload_n (pc := 694) g 0 dL_law_694 rfl ?_
  refine e_iload_n (pc := 695) g 3 dL_law_695 rfl ?_
  refine e_iconst (pc := 696) g 1 dL_law_696 kc_1 ?_
  refine e_iadd (pc := 697) g dL_law_697 ?_
  refine e_sld (pc := 698) g lx o1 dL_law_698 ?_
  obtain ⟨r7, M5, f6, h⟩ := h
  refine e_callV (As := [.int (xs (v3 + 1).toNatClampNeg)]) (S := [.int r4]) (pc := 699) g ok_X10_plan ml_L_79 sh_72 ⟨_, rfl, rfl⟩ f6 (by omega) rfl (Nat.le_of_ble_eq_true rfl) dL_law_699 ?_
  refine e_to (S' := [.int r7, .int r4]) rfl rfl rfl ?_
  refine e_icmp_eq (pc := 702) g 1013 dL_law_702 (by decide) (fun c8 => ?_) (fun c8 => ?_)
  · have h := h.1 c8
    exact h
  · have h := h.2 c8
    refine e_iconst (pc := 705) g 0 dL_law_705 kc_0 ?_
    exact h.elim
set_option maxHeartbeats 4000000 in
set_option maxRecDepth 100000 in
theorem b_L_law_707 {G : GC} {n L0 : Nat} {xs : Nat → Int32} (g : Good G mL_law n) (lx : LX G L0 xs) (hn : 16 ≤ n)  (v3 : Int32)  (M : MM) (h : (vp_in (v3 + 1) L0) ∧ (vp_in (v3 + 2) L0) ∧ (∃ (r5 : Int64) (M3 : MM), Fn 15 mX9_planned [.ref 0, .int (xs (v3 + 1).toNatClampNeg), .int (xs (v3 + 2).toNatClampNeg)] M (some (.long r5)) M3 ∧ (∃ (r8 : Int64) (M6 : MM), Fn 5 mX10_planned [.ref 72, .int (xs (v3 + 1).toNatClampNeg), .int (xs (v3 + 2).toNatClampNeg)] M3 (some (.long r8)) M6 ∧ ((r5 = (r8 : Int64) → At_L_law_1013 G v3 M6) ∧ (¬ (r5 = (r8 : Int64)) → False))))) : At_L_law_707 G v3 M := by
  unfold At_L_law_707
  refine e_aload_n (pc := 707) g 1 dL_law_707 rfl ?_
  refine e_aload_n (pc := 708) g 0 dL_law_708 rfl ?_
  refine e_iload_n (pc := 709) g 3 dL_law_709 rfl ?_
  refine e_iconst (pc := 710) g 1 dL_law_710 kc_1 ?_
  refine e_iadd (pc := 711) g dL_law_711 ?_
  obtain ⟨o1, h⟩ := h
  refine e_sld (pc := 712) g lx o1 dL_law_712 ?_
  refine e_aload_n (pc := 713) g 0 dL_law_713 rfl ?_
  refine e_iload_n (pc := 714) g 3 dL_law_714 rfl ?_
  refine e_iconst (pc := 715) g 2 dL_law_715 kc_2 ?_
  refine e_iadd (pc := 716) g dL_law_716 ?_
  obtain ⟨o2, h⟩ := h
  refine e_sld (pc := 717) g lx o2 dL_law_717 ?_
  obtain ⟨r5, M3, f4, h⟩ := h
  refine e_callV (As := [.int (xs (v3 + 1).toNatClampNeg), .int (xs (v3 + 2).toNatClampNeg)]) (S := []) (pc := 718) g ok_X9_planned ml_L_80 sh_0 ⟨_, rfl, rfl⟩ f4 (by omega) rfl (Nat.le_of_ble_eq_true rfl) dL_law_718 ?_
  refine e_to (S' := [.long r5]) rfl rfl rfl ?_
  refine e_aload_n (pc := 721) g 2 dL_law_721 rfl ?_
  refine e_aload_n (pc := 722) g 0 dL_law_722 rfl ?_
  refine e_iload_n (pc := 723) g 3 dL_law_723 rfl ?_
  refine e_iconst (pc := 724) g 1 dL_law_724 kc_1 ?_
  refine e_iadd (pc := 725) g dL_law_725 ?_
  refine e_sld (pc := 726) g lx o1 dL_law_726 ?_
  refine e_aload_n (pc := 727) g 0 dL_law_727 rfl ?_
  refine e_iload_n (pc := 728) g 3 dL_law_728 rfl ?_
  refine e_iconst (pc := 729) g 2 dL_law_729 kc_2 ?_
  refine e_iadd (pc := 730) g dL_law_730 ?_
  refine e_sld (pc := 731) g lx o2 dL_law_731 ?_
  obtain ⟨r8, M6, f7, h⟩ := h
  refine e_callV (As := [.int (xs (v3 + 1).toNatClampNeg), .int (xs (v3 + 2).toNatClampNeg)]) (S := [.long r5]) (pc := 732) g ok_X10_planned ml_L_84 sh_72 ⟨_, rfl, rfl⟩ f7 (by omega) rfl (Nat.le_of_ble_eq_true rfl) dL_law_732 ?_
  refine e_to (S' := [.long r8, .long r5]) rfl rfl rfl ?_
  refine e_lcmp (pc := 735) g dL_law_735 ?_
  refine e_if_eq (pc := 736) g 1013 dL_law_736 (by decide) (fun c9 => ?_) (fun c9 => ?_)
  · have h := h.1 (lc_eq.mp c9)
    exact h
  · have h := h.2 (fun z => c9 (lc_eq.mpr z))
    refine e_iconst (pc := 739) g 0 dL_law_739 kc_0 ?_
    exact h.elim
set_option maxHeartbeats 4000000 in
set_option maxRecDepth 100000 in
theorem b_L_law_741 {G : GC} {n L0 : Nat} {xs : Nat → Int32} (g : Good G mL_law n) (lx : LX G L0 xs) (hn : 16 ≤ n)  (v3 : Int32)  (M : MM) (h : (vp_in (v3 + 1) L0) ∧ (vp_in (v3 + 2) L0) ∧ (vp_in (v3 + 3) L0) ∧ (∃ (r6 : Int64) (M4 : MM), Fn 7 mX9_judge [.ref 0, .int (xs (v3 + 1).toNatClampNeg), .int (xs (v3 + 2).toNatClampNeg), .int (xs (v3 + 3).toNatClampNeg)] M (some (.long r6)) M4 ∧ (∃ (r9 : Int64) (M7 : MM), Fn 4 mX10_judge [.ref 72, .int (xs (v3 + 1).toNatClampNeg), .int (xs (v3 + 2).toNatClampNeg), .int (xs (v3 + 3).toNatClampNeg)] M4 (some (.long r9)) M7 ∧ ((r6 = (r9 : Int64) → At_L_law_1013 G v3 M7) ∧ (¬ (r6 = (r9 : Int64)) → False))))) : At_L_law_741 G v3 M := by
  unfold At_L_law_741
  refine e_aload_n (pc := 741) g 1 dL_law_741 rfl ?_
  refine e_aload_n (pc := 742) g 0 dL_law_742 rfl ?_
  refine e_iload_n (pc := 743) g 3 dL_law_743 rfl ?_
  refine e_iconst (pc := 744) g 1 dL_law_744 kc_1 ?_
  refine e_iadd (pc := 745) g dL_law_745 ?_
  obtain ⟨o1, h⟩ := h
  refine e_sld (pc := 746) g lx o1 dL_law_746 ?_
  refine e_aload_n (pc := 747) g 0 dL_law_747 rfl ?_
  refine e_iload_n (pc := 748) g 3 dL_law_748 rfl ?_
  refine e_iconst (pc := 749) g 2 dL_law_749 kc_2 ?_
  refine e_iadd (pc := 750) g dL_law_750 ?_
  obtain ⟨o2, h⟩ := h
  refine e_sld (pc := 751) g lx o2 dL_law_751 ?_
  refine e_aload_n (pc := 752) g 0 dL_law_752 rfl ?_
  refine e_iload_n (pc := 753) g 3 dL_law_753 rfl ?_
  refine e_iconst (pc := 754) g 3 dL_law_754 kc_3 ?_
  refine e_iadd (pc := 755) g dL_law_755 ?_
  obtain ⟨o3, h⟩ := h
  refine e_sld (pc := 756) g lx o3 dL_law_756 ?_
  obtain ⟨r6, M4, f5, h⟩ := h
  refine e_callV (As := [.int (xs (v3 + 1).toNatClampNeg), .int (xs (v3 + 2).toNatClampNeg), .int (xs (v3 + 3).toNatClampNeg)]) (S := []) (pc := 757) g ok_X9_judge ml_L_85 sh_0 ⟨_, rfl, rfl⟩ f5 (by omega) rfl (Nat.le_of_ble_eq_true rfl) dL_law_757 ?_
  refine e_to (S' := [.long r6]) rfl rfl rfl ?_
  refine e_aload_n (pc := 760) g 2 dL_law_760 rfl ?_
  refine e_aload_n (pc := 761) g 0 dL_law_761 rfl ?_
  refine e_iload_n (pc := 762) g 3 dL_law_762 rfl ?_
  refine e_iconst (pc := 763) g 1 dL_law_763 kc_1 ?_
  refine e_iadd (pc := 764) g dL_law_764 ?_
  refine e_sld (pc := 765) g lx o1 dL_law_765 ?_
  refine e_aload_n (pc := 766) g 0 dL_law_766 rfl ?_
  refine e_iload_n (pc := 767) g 3 dL_law_767 rfl ?_
  refine e_iconst (pc := 768) g 2 dL_law_768 kc_2 ?_
  refine e_iadd (pc := 769) g dL_law_769 ?_
  refine e_sld (pc := 770) g lx o2 dL_law_770 ?_
  refine e_aload_n (pc := 771) g 0 dL_law_771 rfl ?_
  refine e_iload_n (pc := 772) g 3 dL_law_772 rfl ?_
  refine e_iconst (pc := 773) g 3 dL_law_773 kc_3 ?_
  refine e_iadd (pc := 774) g dL_law_774 ?_
  refine e_sld (pc := 775) g lx o3 dL_law_775 ?_
  obtain ⟨r9, M7, f8, h⟩ := h
  refine e_callV (As := [.int (xs (v3 + 1).toNatClampNeg), .int (xs (v3 + 2).toNatClampNeg), .int (xs (v3 + 3).toNatClampNeg)]) (S := [.long r6]) (pc := 776) g ok_X10_judge ml_L_89 sh_72 ⟨_, rfl, rfl⟩ f8 (by omega) rfl (Nat.le_of_ble_eq_true rfl) dL_law_776 ?_
  refine e_to (S' := [.long r9, .long r6]) rfl rfl rfl ?_
  refine e_lcmp (pc := 779) g dL_law_779 ?_
  refine e_if_eq (pc := 780) g 1013 dL_law_780 (by decide) (fun c10 => ?_) (fun c10 => ?_)
  · have h := h.1 (lc_eq.mp c10)
    exact h
  · have h := h.2 (fun z => c10 (lc_eq.mpr z))
    refine e_iconst (pc := 783) g 0 dL_law_783 kc_0 ?_
    exact h.elim
set_option maxHeartbeats 4000000 in
set_option maxRecDepth 100000 in
theorem b_L_law_785 {G : GC} {n L0 : Nat} {xs : Nat → Int32} (g : Good G mL_law n) (lx : LX G L0 xs) (hn : 16 ≤ n)  (v3 : Int32)  (M : MM) (h : (vp_in (v3 + 1) L0) ∧ (∃ (r4 : Int32) (M2 : MM), Fn 15 mX9_follow [.ref 0, .int (xs (v3 + 1).toNatClampNeg)] M (some (.int r4)) M2 ∧ (∃ (r7 : Int32) (M5 : MM), Fn 5 mX10_follow [.ref 72, .int (xs (v3 + 1).toNatClampNeg)] M2 (some (.int r7)) M5 ∧ ((r4 = (r7 : Int32) → At_L_law_1013 G v3 M5) ∧ (¬ (r4 = (r7 : Int32)) → False))))) : At_L_law_785 G v3 M := by
  unfold At_L_law_785
  refine e_aload_n (pc := 785) g 1 dL_law_785 rfl ?_
  refine e_aload_n (pc := 786) g 0 dL_law_786 rfl ?_
  refine e_iload_n (pc := 787) g 3 dL_law_787 rfl ?_
  refine e_iconst (pc := 788) g 1 dL_law_788 kc_1 ?_
  refine e_iadd (pc := 789) g dL_law_789 ?_
  obtain ⟨o1, h⟩ := h
  refine e_sld (pc := 790) g lx o1 dL_law_790 ?_
  obtain ⟨r4, M2, f3, h⟩ := h
  refine e_callV (As := [.int (xs (v3 + 1).toNatClampNeg)]) (S := []) (pc := 791) g ok_X9_follow ml_L_90 sh_0 ⟨_, rfl, rfl⟩ f3 (by omega) rfl (Nat.le_of_ble_eq_true rfl) dL_law_791 ?_
  refine e_to (S' := [.int r4]) rfl rfl rfl ?_
  refine e_aload_n (pc := 794) g 2 dL_law_794 rfl ?_
  refine e_aload_n (pc := 795) g 0 dL_law_795 rfl ?_
  refine e_iload_n (pc := 796) g 3 dL_law_796 rfl ?_
  refine e_iconst (pc := 797) g 1 dL_law_797 kc_1 ?_
  refine e_iadd (pc := 798) g dL_law_798 ?_
  refine e_sld (pc := 799) g lx o1 dL_law_799 ?_
  obtain ⟨r7, M5, f6, h⟩ := h
  refine e_callV (As := [.int (xs (v3 + 1).toNatClampNeg)]) (S := [.int r4]) (pc := 800) g ok_X10_follow ml_L_93 sh_72 ⟨_, rfl, rfl⟩ f6 (by omega) rfl (Nat.le_of_ble_eq_true rfl) dL_law_800 ?_
  refine e_to (S' := [.int r7, .int r4]) rfl rfl rfl ?_
  refine e_icmp_eq (pc := 803) g 1013 dL_law_803 (by decide) (fun c8 => ?_) (fun c8 => ?_)
  · have h := h.1 c8
    exact h
  · have h := h.2 c8
    refine e_iconst (pc := 806) g 0 dL_law_806 kc_0 ?_
    exact h.elim
set_option maxHeartbeats 4000000 in
set_option maxRecDepth 100000 in
theorem b_L_law_808 {G : GC} {n L0 : Nat} {xs : Nat → Int32} (g : Good G mL_law n) (lx : LX G L0 xs) (hn : 16 ≤ n)  (v3 : Int32)  (M : MM) (h : (vp_in (v3 + 1) L0) ∧ (vp_in (v3 + 2) L0) ∧ (vp_in (v3 + 3) L0) ∧ (∃ (r6 : Int32) (M4 : MM), Fn 3 mX9_sheet [.ref 0, .int (xs (v3 + 1).toNatClampNeg), .int (xs (v3 + 2).toNatClampNeg), .int (xs (v3 + 3).toNatClampNeg)] M (some (.int r6)) M4 ∧ (∃ (r9 : Int32) (M7 : MM), Fn 3 mX10_sheet [.ref 72, .int (xs (v3 + 1).toNatClampNeg), .int (xs (v3 + 2).toNatClampNeg), .int (xs (v3 + 3).toNatClampNeg)] M4 (some (.int r9)) M7 ∧ ((r6 = (r9 : Int32) → At_L_law_1013 G v3 M7) ∧ (¬ (r6 = (r9 : Int32)) → False))))) : At_L_law_808 G v3 M := by
  unfold At_L_law_808
  refine e_aload_n (pc := 808) g 1 dL_law_808 rfl ?_
  refine e_aload_n (pc := 809) g 0 dL_law_809 rfl ?_
  refine e_iload_n (pc := 810) g 3 dL_law_810 rfl ?_
  refine e_iconst (pc := 811) g 1 dL_law_811 kc_1 ?_
  refine e_iadd (pc := 812) g dL_law_812 ?_
  obtain ⟨o1, h⟩ := h
  refine e_sld (pc := 813) g lx o1 dL_law_813 ?_
  refine e_aload_n (pc := 814) g 0 dL_law_814 rfl ?_
  refine e_iload_n (pc := 815) g 3 dL_law_815 rfl ?_
  refine e_iconst (pc := 816) g 2 dL_law_816 kc_2 ?_
  refine e_iadd (pc := 817) g dL_law_817 ?_
  obtain ⟨o2, h⟩ := h
  refine e_sld (pc := 818) g lx o2 dL_law_818 ?_
  refine e_aload_n (pc := 819) g 0 dL_law_819 rfl ?_
  refine e_iload_n (pc := 820) g 3 dL_law_820 rfl ?_
  refine e_iconst (pc := 821) g 3 dL_law_821 kc_3 ?_
  refine e_iadd (pc := 822) g dL_law_822 ?_
  obtain ⟨o3, h⟩ := h
  refine e_sld (pc := 823) g lx o3 dL_law_823 ?_
  obtain ⟨r6, M4, f5, h⟩ := h
  refine e_callV (As := [.int (xs (v3 + 1).toNatClampNeg), .int (xs (v3 + 2).toNatClampNeg), .int (xs (v3 + 3).toNatClampNeg)]) (S := []) (pc := 824) g ok_X9_sheet ml_L_94 sh_0 ⟨_, rfl, rfl⟩ f5 (by omega) rfl (Nat.le_of_ble_eq_true rfl) dL_law_824 ?_
  refine e_to (S' := [.int r6]) rfl rfl rfl ?_
  refine e_aload_n (pc := 827) g 2 dL_law_827 rfl ?_
  refine e_aload_n (pc := 828) g 0 dL_law_828 rfl ?_
  refine e_iload_n (pc := 829) g 3 dL_law_829 rfl ?_
  refine e_iconst (pc := 830) g 1 dL_law_830 kc_1 ?_
  refine e_iadd (pc := 831) g dL_law_831 ?_
  refine e_sld (pc := 832) g lx o1 dL_law_832 ?_
  refine e_aload_n (pc := 833) g 0 dL_law_833 rfl ?_
  refine e_iload_n (pc := 834) g 3 dL_law_834 rfl ?_
  refine e_iconst (pc := 835) g 2 dL_law_835 kc_2 ?_
  refine e_iadd (pc := 836) g dL_law_836 ?_
  refine e_sld (pc := 837) g lx o2 dL_law_837 ?_
  refine e_aload_n (pc := 838) g 0 dL_law_838 rfl ?_
  refine e_iload_n (pc := 839) g 3 dL_law_839 rfl ?_
  refine e_iconst (pc := 840) g 3 dL_law_840 kc_3 ?_
  refine e_iadd (pc := 841) g dL_law_841 ?_
  refine e_sld (pc := 842) g lx o3 dL_law_842 ?_
  obtain ⟨r9, M7, f8, h⟩ := h
  refine e_callV (As := [.int (xs (v3 + 1).toNatClampNeg), .int (xs (v3 + 2).toNatClampNeg), .int (xs (v3 + 3).toNatClampNeg)]) (S := [.int r6]) (pc := 843) g ok_X10_sheet ml_L_97 sh_72 ⟨_, rfl, rfl⟩ f8 (by omega) rfl (Nat.le_of_ble_eq_true rfl) dL_law_843 ?_
  refine e_to (S' := [.int r9, .int r6]) rfl rfl rfl ?_
  refine e_icmp_eq (pc := 846) g 1013 dL_law_846 (by decide) (fun c10 => ?_) (fun c10 => ?_)
  · have h := h.1 c10
    exact h
  · have h := h.2 c10
    refine e_iconst (pc := 849) g 0 dL_law_849 kc_0 ?_
    exact h.elim
set_option maxHeartbeats 4000000 in
set_option maxRecDepth 100000 in
theorem b_L_law_851 {G : GC} {n L0 : Nat} {xs : Nat → Int32} (g : Good G mL_law n) (lx : LX G L0 xs) (hn : 16 ≤ n)  (v3 : Int32)  (M : MM) (h : (vp_in (v3 + 1) L0) ∧ (vp_in (v3 + 2) L0) ∧ (vp_in (v3 + 3) L0) ∧ (∃ (r6 : Int32) (M4 : MM), Fn 3 mX9_lay [.ref 0, .int (xs (v3 + 1).toNatClampNeg), .int (xs (v3 + 2).toNatClampNeg), .int (xs (v3 + 3).toNatClampNeg)] M (some (.int r6)) M4 ∧ (∃ (r9 : Int32) (M7 : MM), Fn 3 mX10_lay [.ref 72, .int (xs (v3 + 1).toNatClampNeg), .int (xs (v3 + 2).toNatClampNeg), .int (xs (v3 + 3).toNatClampNeg)] M4 (some (.int r9)) M7 ∧ ((r6 = (r9 : Int32) → At_L_law_1013 G v3 M7) ∧ (¬ (r6 = (r9 : Int32)) → False))))) : At_L_law_851 G v3 M := by
  unfold At_L_law_851
  refine e_aload_n (pc := 851) g 1 dL_law_851 rfl ?_
  refine e_aload_n (pc := 852) g 0 dL_law_852 rfl ?_
  refine e_iload_n (pc := 853) g 3 dL_law_853 rfl ?_
  refine e_iconst (pc := 854) g 1 dL_law_854 kc_1 ?_
  refine e_iadd (pc := 855) g dL_law_855 ?_
  obtain ⟨o1, h⟩ := h
  refine e_sld (pc := 856) g lx o1 dL_law_856 ?_
  refine e_aload_n (pc := 857) g 0 dL_law_857 rfl ?_
  refine e_iload_n (pc := 858) g 3 dL_law_858 rfl ?_
  refine e_iconst (pc := 859) g 2 dL_law_859 kc_2 ?_
  refine e_iadd (pc := 860) g dL_law_860 ?_
  obtain ⟨o2, h⟩ := h
  refine e_sld (pc := 861) g lx o2 dL_law_861 ?_
  refine e_aload_n (pc := 862) g 0 dL_law_862 rfl ?_
  refine e_iload_n (pc := 863) g 3 dL_law_863 rfl ?_
  refine e_iconst (pc := 864) g 3 dL_law_864 kc_3 ?_
  refine e_iadd (pc := 865) g dL_law_865 ?_
  obtain ⟨o3, h⟩ := h
  refine e_sld (pc := 866) g lx o3 dL_law_866 ?_
  obtain ⟨r6, M4, f5, h⟩ := h
  refine e_callV (As := [.int (xs (v3 + 1).toNatClampNeg), .int (xs (v3 + 2).toNatClampNeg), .int (xs (v3 + 3).toNatClampNeg)]) (S := []) (pc := 867) g ok_X9_lay ml_L_98 sh_0 ⟨_, rfl, rfl⟩ f5 (by omega) rfl (Nat.le_of_ble_eq_true rfl) dL_law_867 ?_
  refine e_to (S' := [.int r6]) rfl rfl rfl ?_
  refine e_aload_n (pc := 870) g 2 dL_law_870 rfl ?_
  refine e_aload_n (pc := 871) g 0 dL_law_871 rfl ?_
  refine e_iload_n (pc := 872) g 3 dL_law_872 rfl ?_
  refine e_iconst (pc := 873) g 1 dL_law_873 kc_1 ?_
  refine e_iadd (pc := 874) g dL_law_874 ?_
  refine e_sld (pc := 875) g lx o1 dL_law_875 ?_
  refine e_aload_n (pc := 876) g 0 dL_law_876 rfl ?_
  refine e_iload_n (pc := 877) g 3 dL_law_877 rfl ?_
  refine e_iconst (pc := 878) g 2 dL_law_878 kc_2 ?_
  refine e_iadd (pc := 879) g dL_law_879 ?_
  refine e_sld (pc := 880) g lx o2 dL_law_880 ?_
  refine e_aload_n (pc := 881) g 0 dL_law_881 rfl ?_
  refine e_iload_n (pc := 882) g 3 dL_law_882 rfl ?_
  refine e_iconst (pc := 883) g 3 dL_law_883 kc_3 ?_
  refine e_iadd (pc := 884) g dL_law_884 ?_
  refine e_sld (pc := 885) g lx o3 dL_law_885 ?_
  obtain ⟨r9, M7, f8, h⟩ := h
  refine e_callV (As := [.int (xs (v3 + 1).toNatClampNeg), .int (xs (v3 + 2).toNatClampNeg), .int (xs (v3 + 3).toNatClampNeg)]) (S := [.int r6]) (pc := 886) g ok_X10_lay ml_L_101 sh_72 ⟨_, rfl, rfl⟩ f8 (by omega) rfl (Nat.le_of_ble_eq_true rfl) dL_law_886 ?_
  refine e_to (S' := [.int r9, .int r6]) rfl rfl rfl ?_
  refine e_icmp_eq (pc := 889) g 1013 dL_law_889 (by decide) (fun c10 => ?_) (fun c10 => ?_)
  · have h := h.1 c10
    exact h
  · have h := h.2 c10
    refine e_iconst (pc := 892) g 0 dL_law_892 kc_0 ?_
    exact h.elim
set_option maxHeartbeats 4000000 in
set_option maxRecDepth 100000 in
theorem b_L_law_894 {G : GC} {n L0 : Nat} {xs : Nat → Int32} (g : Good G mL_law n) (lx : LX G L0 xs) (hn : 16 ≤ n)  (v3 : Int32)  (M : MM) (h : (vp_in (v3 + 1) L0) ∧ (vp_in (v3 + 2) L0) ∧ (vp_in (v3 + 3) L0) ∧ (vp_in (v3 + 4) L0) ∧ (∃ (r7 : Int32) (M5 : MM), Fn 6 mX9_rain [.ref 0, .int (xs (v3 + 1).toNatClampNeg), .int (xs (v3 + 2).toNatClampNeg), .int (xs (v3 + 3).toNatClampNeg), .int (xs (v3 + 4).toNatClampNeg)] M (some (.int r7)) M5 ∧ (∃ (r10 : Int32) (M8 : MM), Fn 5 mX10_rain [.ref 72, .int (xs (v3 + 1).toNatClampNeg), .int (xs (v3 + 2).toNatClampNeg), .int (xs (v3 + 3).toNatClampNeg), .int (xs (v3 + 4).toNatClampNeg)] M5 (some (.int r10)) M8 ∧ ((r7 = (r10 : Int32) → At_L_law_1013 G v3 M8) ∧ (¬ (r7 = (r10 : Int32)) → False))))) : At_L_law_894 G v3 M := by
  unfold At_L_law_894
  refine e_aload_n (pc := 894) g 1 dL_law_894 rfl ?_
  refine e_aload_n (pc := 895) g 0 dL_law_895 rfl ?_
  refine e_iload_n (pc := 896) g 3 dL_law_896 rfl ?_
  refine e_iconst (pc := 897) g 1 dL_law_897 kc_1 ?_
  refine e_iadd (pc := 898) g dL_law_898 ?_
  obtain ⟨o1, h⟩ := h
  refine e_sld (pc := 899) g lx o1 dL_law_899 ?_
  refine e_aload_n (pc := 900) g 0 dL_law_900 rfl ?_
  refine e_iload_n (pc := 901) g 3 dL_law_901 rfl ?_
  refine e_iconst (pc := 902) g 2 dL_law_902 kc_2 ?_
  refine e_iadd (pc := 903) g dL_law_903 ?_
  obtain ⟨o2, h⟩ := h
  refine e_sld (pc := 904) g lx o2 dL_law_904 ?_
  refine e_aload_n (pc := 905) g 0 dL_law_905 rfl ?_
  refine e_iload_n (pc := 906) g 3 dL_law_906 rfl ?_
  refine e_iconst (pc := 907) g 3 dL_law_907 kc_3 ?_
  refine e_iadd (pc := 908) g dL_law_908 ?_
  obtain ⟨o3, h⟩ := h
  refine e_sld (pc := 909) g lx o3 dL_law_909 ?_
  refine e_aload_n (pc := 910) g 0 dL_law_910 rfl ?_
  refine e_iload_n (pc := 911) g 3 dL_law_911 rfl ?_
  refine e_iconst (pc := 912) g 4 dL_law_912 kc_4 ?_
  refine e_iadd (pc := 913) g dL_law_913 ?_
  obtain ⟨o4, h⟩ := h
  refine e_sld (pc := 914) g lx o4 dL_law_914 ?_
  obtain ⟨r7, M5, f6, h⟩ := h
  refine e_callV (As := [.int (xs (v3 + 1).toNatClampNeg), .int (xs (v3 + 2).toNatClampNeg), .int (xs (v3 + 3).toNatClampNeg), .int (xs (v3 + 4).toNatClampNeg)]) (S := []) (pc := 915) g ok_X9_rain ml_L_102 sh_0 ⟨_, rfl, rfl⟩ f6 (by omega) rfl (Nat.le_of_ble_eq_true rfl) dL_law_915 ?_
  refine e_to (S' := [.int r7]) rfl rfl rfl ?_
  refine e_aload_n (pc := 918) g 2 dL_law_918 rfl ?_
  refine e_aload_n (pc := 919) g 0 dL_law_919 rfl ?_
  refine e_iload_n (pc := 920) g 3 dL_law_920 rfl ?_
  refine e_iconst (pc := 921) g 1 dL_law_921 kc_1 ?_
  refine e_iadd (pc := 922) g dL_law_922 ?_
  refine e_sld (pc := 923) g lx o1 dL_law_923 ?_
  refine e_aload_n (pc := 924) g 0 dL_law_924 rfl ?_
  refine e_iload_n (pc := 925) g 3 dL_law_925 rfl ?_
  refine e_iconst (pc := 926) g 2 dL_law_926 kc_2 ?_
  refine e_iadd (pc := 927) g dL_law_927 ?_
  refine e_sld (pc := 928) g lx o2 dL_law_928 ?_
  refine e_aload_n (pc := 929) g 0 dL_law_929 rfl ?_
  refine e_iload_n (pc := 930) g 3 dL_law_930 rfl ?_
  refine e_iconst (pc := 931) g 3 dL_law_931 kc_3 ?_
  refine e_iadd (pc := 932) g dL_law_932 ?_
  refine e_sld (pc := 933) g lx o3 dL_law_933 ?_
  refine e_aload_n (pc := 934) g 0 dL_law_934 rfl ?_
  refine e_iload_n (pc := 935) g 3 dL_law_935 rfl ?_
  refine e_iconst (pc := 936) g 4 dL_law_936 kc_4 ?_
  refine e_iadd (pc := 937) g dL_law_937 ?_
  refine e_sld (pc := 938) g lx o4 dL_law_938 ?_
  obtain ⟨r10, M8, f9, h⟩ := h
  refine e_callV (As := [.int (xs (v3 + 1).toNatClampNeg), .int (xs (v3 + 2).toNatClampNeg), .int (xs (v3 + 3).toNatClampNeg), .int (xs (v3 + 4).toNatClampNeg)]) (S := [.int r7]) (pc := 939) g ok_X10_rain ml_L_105 sh_72 ⟨_, rfl, rfl⟩ f9 (by omega) rfl (Nat.le_of_ble_eq_true rfl) dL_law_939 ?_
  refine e_to (S' := [.int r10, .int r7]) rfl rfl rfl ?_
  refine e_icmp_eq (pc := 942) g 1013 dL_law_942 (by decide) (fun c11 => ?_) (fun c11 => ?_)
  · have h := h.1 c11
    exact h
  · have h := h.2 c11
    refine e_iconst (pc := 945) g 0 dL_law_945 kc_0 ?_
    exact h.elim
set_option maxHeartbeats 4000000 in
set_option maxRecDepth 100000 in
theorem b_L_law_947 {G : GC} {n L0 : Nat} {xs : Nat → Int32} (g : Good G mL_law n) (lx : LX G L0 xs) (hn : 16 ≤ n)  (v3 : Int32)  (M : MM) (h : (vp_in (v3 + 1) L0) ∧ (vp_in (v3 + 2) L0) ∧ (vp_in (v3 + 3) L0) ∧ (∃ (r6 : Int32) (M4 : MM), Fn 3 mX9_tides [.ref 0, .int (xs (v3 + 1).toNatClampNeg), .int (xs (v3 + 2).toNatClampNeg), .int (xs (v3 + 3).toNatClampNeg)] M (some (.int r6)) M4 ∧ (∃ (r9 : Int32) (M7 : MM), Fn 3 mX10_tides [.ref 72, .int (xs (v3 + 1).toNatClampNeg), .int (xs (v3 + 2).toNatClampNeg), .int (xs (v3 + 3).toNatClampNeg)] M4 (some (.int r9)) M7 ∧ ((r6 = (r9 : Int32) → At_L_law_1013 G v3 M7) ∧ (¬ (r6 = (r9 : Int32)) → False))))) : At_L_law_947 G v3 M := by
  unfold At_L_law_947
  refine e_aload_n (pc := 947) g 1 dL_law_947 rfl ?_
  refine e_aload_n (pc := 948) g 0 dL_law_948 rfl ?_
  refine e_iload_n (pc := 949) g 3 dL_law_949 rfl ?_
  refine e_iconst (pc := 950) g 1 dL_law_950 kc_1 ?_
  refine e_iadd (pc := 951) g dL_law_951 ?_
  obtain ⟨o1, h⟩ := h
  refine e_sld (pc := 952) g lx o1 dL_law_952 ?_
  refine e_aload_n (pc := 953) g 0 dL_law_953 rfl ?_
  refine e_iload_n (pc := 954) g 3 dL_law_954 rfl ?_
  refine e_iconst (pc := 955) g 2 dL_law_955 kc_2 ?_
  refine e_iadd (pc := 956) g dL_law_956 ?_
  obtain ⟨o2, h⟩ := h
  refine e_sld (pc := 957) g lx o2 dL_law_957 ?_
  refine e_aload_n (pc := 958) g 0 dL_law_958 rfl ?_
  refine e_iload_n (pc := 959) g 3 dL_law_959 rfl ?_
  refine e_iconst (pc := 960) g 3 dL_law_960 kc_3 ?_
  refine e_iadd (pc := 961) g dL_law_961 ?_
  obtain ⟨o3, h⟩ := h
  refine e_sld (pc := 962) g lx o3 dL_law_962 ?_
  obtain ⟨r6, M4, f5, h⟩ := h
  refine e_callV (As := [.int (xs (v3 + 1).toNatClampNeg), .int (xs (v3 + 2).toNatClampNeg), .int (xs (v3 + 3).toNatClampNeg)]) (S := []) (pc := 963) g ok_X9_tides ml_L_106 sh_0 ⟨_, rfl, rfl⟩ f5 (by omega) rfl (Nat.le_of_ble_eq_true rfl) dL_law_963 ?_
  refine e_to (S' := [.int r6]) rfl rfl rfl ?_
  refine e_aload_n (pc := 966) g 2 dL_law_966 rfl ?_
  refine e_aload_n (pc := 967) g 0 dL_law_967 rfl ?_
  refine e_iload_n (pc := 968) g 3 dL_law_968 rfl ?_
  refine e_iconst (pc := 969) g 1 dL_law_969 kc_1 ?_
  refine e_iadd (pc := 970) g dL_law_970 ?_
  refine e_sld (pc := 971) g lx o1 dL_law_971 ?_
  refine e_aload_n (pc := 972) g 0 dL_law_972 rfl ?_
  refine e_iload_n (pc := 973) g 3 dL_law_973 rfl ?_
  refine e_iconst (pc := 974) g 2 dL_law_974 kc_2 ?_
  refine e_iadd (pc := 975) g dL_law_975 ?_
  refine e_sld (pc := 976) g lx o2 dL_law_976 ?_
  refine e_aload_n (pc := 977) g 0 dL_law_977 rfl ?_
  refine e_iload_n (pc := 978) g 3 dL_law_978 rfl ?_
  refine e_iconst (pc := 979) g 3 dL_law_979 kc_3 ?_
  refine e_iadd (pc := 980) g dL_law_980 ?_
  refine e_sld (pc := 981) g lx o3 dL_law_981 ?_
  obtain ⟨r9, M7, f8, h⟩ := h
  refine e_callV (As := [.int (xs (v3 + 1).toNatClampNeg), .int (xs (v3 + 2).toNatClampNeg), .int (xs (v3 + 3).toNatClampNeg)]) (S := [.int r6]) (pc := 982) g ok_X10_tides ml_L_109 sh_72 ⟨_, rfl, rfl⟩ f8 (by omega) rfl (Nat.le_of_ble_eq_true rfl) dL_law_982 ?_
  refine e_to (S' := [.int r9, .int r6]) rfl rfl rfl ?_
  refine e_icmp_eq (pc := 985) g 1013 dL_law_985 (by decide) (fun c10 => ?_) (fun c10 => ?_)
  · have h := h.1 c10
    exact h
  · have h := h.2 c10
    refine e_iconst (pc := 988) g 0 dL_law_988 kc_0 ?_
    exact h.elim
set_option maxHeartbeats 4000000 in
set_option maxRecDepth 100000 in
theorem b_L_law_990 {G : GC} {n L0 : Nat} {xs : Nat → Int32} (g : Good G mL_law n) (lx : LX G L0 xs) (hn : 16 ≤ n)  (v3 : Int32)  (M : MM) (h : (vp_in (v3 + 1) L0) ∧ (∃ (r4 : Int32) (M2 : MM), Fn 4 mX9_count [.ref 0, .int (xs (v3 + 1).toNatClampNeg)] M (some (.int r4)) M2 ∧ (∃ (r7 : Int32) (M5 : MM), Fn 4 mX10_count [.ref 72, .int (xs (v3 + 1).toNatClampNeg)] M2 (some (.int r7)) M5 ∧ ((r4 = (r7 : Int32) → At_L_law_1013 G v3 M5) ∧ (¬ (r4 = (r7 : Int32)) → False))))) : At_L_law_990 G v3 M := by
  unfold At_L_law_990
  refine e_aload_n (pc := 990) g 1 dL_law_990 rfl ?_
  refine e_aload_n (pc := 991) g 0 dL_law_991 rfl ?_
  refine e_iload_n (pc := 992) g 3 dL_law_992 rfl ?_
  refine e_iconst (pc := 993) g 1 dL_law_993 kc_1 ?_
  refine e_iadd (pc := 994) g dL_law_994 ?_
  obtain ⟨o1, h⟩ := h
  refine e_sld (pc := 995) g lx o1 dL_law_995 ?_
  obtain ⟨r4, M2, f3, h⟩ := h
  refine e_callV (As := [.int (xs (v3 + 1).toNatClampNeg)]) (S := []) (pc := 996) g ok_X9_count ml_L_110 sh_0 ⟨_, rfl, rfl⟩ f3 (by omega) rfl (Nat.le_of_ble_eq_true rfl) dL_law_996 ?_
  refine e_to (S' := [.int r4]) rfl rfl rfl ?_
  refine e_aload_n (pc := 999) g 2 dL_law_999 rfl ?_
  refine e_aload_n (pc := 1000) g 0 dL_law_1000 rfl ?_
  refine e_iload_n (pc := 1001) g 3 dL_law_1001 rfl ?_
  refine e_iconst (pc := 1002) g 1 dL_law_1002 kc_1 ?_
  refine e_iadd (pc := 1003) g dL_law_1003 ?_
  refine e_sld (pc := 1004) g lx o1 dL_law_1004 ?_
  obtain ⟨r7, M5, f6, h⟩ := h
  refine e_callV (As := [.int (xs (v3 + 1).toNatClampNeg)]) (S := [.int r4]) (pc := 1005) g ok_X10_count ml_L_113 sh_72 ⟨_, rfl, rfl⟩ f6 (by omega) rfl (Nat.le_of_ble_eq_true rfl) dL_law_1005 ?_
  refine e_to (S' := [.int r7, .int r4]) rfl rfl rfl ?_
  refine e_icmp_eq (pc := 1008) g 1013 dL_law_1008 (by decide) (fun c8 => ?_) (fun c8 => ?_)
  · have h := h.1 c8
    exact h
  · have h := h.2 c8
    refine e_iconst (pc := 1011) g 0 dL_law_1011 kc_0 ?_
    exact h.elim
set_option maxHeartbeats 4000000 in
set_option maxRecDepth 100000 in
theorem b_L_law_1013 {G : GC} {n L0 : Nat} {xs : Nat → Int32} (g : Good G mL_law n) (lx : LX G L0 xs) (hn : 16 ≤ n)  (v3 : Int32)  (M : MM) (h : (∀ x1 : Int32, x1 = v3 + 6 → At_L_law_18 G x1 M)) : At_L_law_1013 G v3 M := by
  unfold At_L_law_1013
  obtain ⟨x1, qx1⟩ : ∃ y : Int32, y = v3 + 6 := ⟨_, rfl⟩
  have h := h x1 qx1
  refine e_iinc (pc := 1013) g 3 x1 [(0, .ref 107), (1, .ref 0), (2, .ref 72), (3, .int x1)] dL_law_1013 rfl (by rw [qx1]; rfl) (by decide) rfl ?_
  refine e_goto (pc := 1016) g 18 dL_law_1016 (by decide) ?_
  exact h

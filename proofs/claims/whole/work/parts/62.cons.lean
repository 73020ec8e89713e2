/-! constructors: worlds that grow -/
section NWA
variable {p : Program} {l : Launch} {e : Env} {R : Room} {s : State} {m : MethodId} {args : Array Value} {below : List Frame} {meth : Method} {c : Code} {H : Heap} {locs : List Loc} {cells slots : Nat} {Q : State → Prop}
variable {cc : ByteArray} {pc : Nat} {ls : Array Slot} {rest : List Value} {D : va_G} {A : Nat → Prop} {ws : va_W} {H0 : Heap} {cA : Nat → ClassId}
theorem va_newI (hx : p.tables.exec = Jvm.exec) (hb : c.code = cc) (harr : (Cond.arrayClass .int).before args s = true) (hK : va_K D vwCl (tyL cA) s) (hP : va_P D vwCl ws H) (hD : va_D A ws) (hS : va_S A H0 H locs) (hA : ∀ q, H0.size ≤ q → A q) {n : Int32} {N : Nat} (hn : ¬ n < 0) (hN : n.toNatClampNeg = N) (hbytes : N * 4 ≤ 536870912) (hcells : cells + 1 ≤ R.cells) (hslots : slots + N ≤ R.slots) (hdg : decode cc pc = .ok (.newarray .int, 2))
    (kk : ∀ (q : Nat) (H1 : Heap), va_P D vwCl (ws ++ [(q, .inl (cA 0, N, .inl (fun _ => 0)))]) H1 → va_D A (ws ++ [(q, .inl (cA 0, N, .inl (fun _ => 0)))]) → va_S A H0 H1 locs → W p l e R s m args below meth c H1 locs (cells + 1) (slots + N) Q (F0 m (pc + 2) ls (.ref q :: rest))) : W p l e R s m args below meth c H locs cells slots Q (F0 m pc ls (.int n :: rest)) := by
  refine va_newa (atype := .int) (ty := .int) (a0 := (N, .inl (fun _ => 0))) hx hb harr rfl hK hP hD hS hA (fun _ => rfl) hn hN hbytes hcells hslots hdg fun q cB H1 hK1 hP1 hD1 hS1 => ?_
  have e9 : cB = cA 0 := Option.some.inj (((hK1.2 3 (cB, .int) rfl).2 : s.vm.findClass _ = some cB).symm.trans ((hK.2 0 (cA 0, .int) rfl).2 : s.vm.findClass _ = some (cA 0)))
  subst e9
  exact kk q H1 hP1 hD1 hS1
theorem va_newZ (hx : p.tables.exec = Jvm.exec) (hb : c.code = cc) (harr : (Cond.arrayClass .boolean).before args s = true) (hK : va_K D vwCl (tyL cA) s) (hP : va_P D vwCl ws H) (hD : va_D A ws) (hS : va_S A H0 H locs) (hA : ∀ q, H0.size ≤ q → A q) {n : Int32} {N : Nat} (hn : ¬ n < 0) (hN : n.toNatClampNeg = N) (hbytes : N * 1 ≤ 536870912) (hcells : cells + 1 ≤ R.cells) (hslots : slots + N ≤ R.slots) (hdg : decode cc pc = .ok (.newarray .boolean, 2))
    (kk : ∀ (q : Nat) (H1 : Heap), va_P D vwCl (ws ++ [(q, .inl (cA 1, N, .inl (fun _ => 0)))]) H1 → va_D A (ws ++ [(q, .inl (cA 1, N, .inl (fun _ => 0)))]) → va_S A H0 H1 locs → W p l e R s m args below meth c H1 locs (cells + 1) (slots + N) Q (F0 m (pc + 2) ls (.ref q :: rest))) : W p l e R s m args below meth c H locs cells slots Q (F0 m pc ls (.int n :: rest)) := by
  refine va_newa (atype := .boolean) (ty := .boolean) (a0 := (N, .inl (fun _ => 0))) hx hb harr rfl hK hP hD hS hA (fun _ => rfl) hn hN hbytes hcells hslots hdg fun q cB H1 hK1 hP1 hD1 hS1 => ?_
  have e9 : cB = cA 1 := Option.some.inj (((hK1.2 3 (cB, .boolean) rfl).2 : s.vm.findClass _ = some cB).symm.trans ((hK.2 1 (cA 1, .boolean) rfl).2 : s.vm.findClass _ = some (cA 1)))
  subst e9
  exact kk q H1 hP1 hD1 hS1
theorem pl_up {N : Nat} {r : Nat → Nat} {f : Nat → va_E} {x : va_E} : va_pl ([] ++ (List.range N).map r) (vr_up f ((List.range N).map r) x) = (List.range N).map (fun i => (r i, x)) := by
  unfold va_pl vr_up
  rw [List.nil_append, List.map_map]
  apply List.map_congr_left
  intro i hi
  show (r i, if r i ∈ (List.range N).map r then x else f (r i)) = (r i, x)
  rw [if_pos (List.mem_map.mpr ⟨i, hi, rfl⟩)]
theorem va_newM (hx : p.tables.exec = Jvm.exec) (hb : c.code = cc) {own : String} {index : Nat} (hown : s.vm.findClass own = some m.cls) (hcl : (Cond.classLink own index "[[I").before args s = true) (harr : (Cond.arrayClass .int).before args s = true) (hover : va_AOA .int s) (hK : va_K D vwCl (tyL cA) s) (hP : va_P D vwCl ws H) (hD : va_D A ws) (hS : va_S A H0 H locs) (hA : ∀ q, H0.size ≤ q → A q) {n k : Int32} {N K : Nat} (hn : ¬ n < 0) (hk : ¬ k < 0) (hN : n.toNatClampNeg = N) (hM : k.toNatClampNeg = K) (hb1 : N * 4 ≤ 536870912) (hb2 : K * 4 ≤ 536870912) (hb3 : K ≤ 536870912) (hcells : cells + (1 + N) ≤ R.cells) (hslots : slots + (N + N * K) ≤ R.slots) (hdg : decode cc pc = .ok (.multianewarray index 2, 4))
    (kk : ∀ (q : Nat) (r : Nat → Nat) (H1 : Heap), va_P D vwCl ((ws ++ [(q, .inl (cA 2, N, .inr (.inr (.inr (.inr (fun i => if i < N then some (r i) else none))))))]) ++ (List.range N).map (fun i => (r i, .inl (cA 0, K, .inl (fun _ => 0))))) H1 → va_D A ((ws ++ [(q, .inl (cA 2, N, .inr (.inr (.inr (.inr (fun i => if i < N then some (r i) else none))))))]) ++ (List.range N).map (fun i => (r i, .inl (cA 0, K, .inl (fun _ => 0))))) → va_S A H0 H1 locs → W p l e R s m args below meth c H1 locs (cells + 1 + N) (slots + N + N * K) Q (F0 m (pc + 4) ls (.ref q :: rest))) : W p l e R s m args below meth c H locs cells slots Q (F0 m pc ls (.int k :: .int n :: rest)) := by
  have hw : ws ++ va_pl [] (fun _ => (.inr (0, []) : va_E)) = ws := List.append_nil ws
  refine va_mna (X := ws) (L := []) (f := fun _ => (.inr (0, []) : va_E)) (ty := .int) (cy := cA 0) (z := (K, .inl (fun _ => 0))) hx hb hown hcl hover harr ((hK.2 0 (cA 0, .int) rfl).2) hK (by rw [hw]; exact hP) (by rw [hw]; exact hD) hS hA hn hk hN hM hb1 hb2 hb3 rfl rfl hcells hslots (fun _ => ?_) hdg fun q r cB H1 _ _ hK1 hP1 hD1 hS1 => ?_
  · first | rfl | exact arrV_new _ _ _
  · have e9 : cB = cA 2 := Option.some.inj (((hK1.2 3 (cB, .array .int) rfl).2 : s.vm.findClass _ = some cB).symm.trans ((hK.2 2 (cA 2, .array .int) rfl).2 : s.vm.findClass _ = some (cA 2)))
    subst e9
    rw [pl_up] at hP1 hD1
    exact kk q r H1 hP1 hD1 hS1
end NWA
theorem wt_X0 : ∀ w ∈ (Cond.code yX0_init cX0_init 1 none :: TB), w ∈ TB := fun w hw => (List.mem_cons.mp hw).elim (fun e => by rw [e]; exact tb_of 100 (by decide +kernel) rfl) id
set_option maxHeartbeats 4000000 in
set_option maxRecDepth 100000 in
theorem k_X0 (l : Launch) (D : va_G) (cA : Nat → ClassId) (h0 : Nat) (sz : Nat) : Met l yX0_init (Cond.code yX0_init cX0_init 1 none :: TB) ({ frames := 1, cells := 7, slots := 42, locals := 100 }) (va_Pc [.ref h0] (fun U => U.heap.size = sz ∧ va_P D vwCl [(h0, .inr (0, [.null, .null, .null, .null, .null, .null, .null, .int 0]))] U.heap ∧ va_K D vwCl (tyL cA) U ∧ (∀ x ∈ NB, va_Nw x U) ∧ va_D (fun _ => True) [(h0, .inr (0, [.null, .null, .null, .null, .null, .null, .null, .int 0]))])) (va_Qv (fun _ : Unit => True) (fun _ t => ∃ (z1 : Nat) (z2 : Nat) (z3 : Nat) (z4 : Nat) (z5 : Nat) (z6 : Nat) (z7 : Nat), va_P D vwCl [(h0, .inr (0, [.ref z1, .ref z2, .ref z3, .ref z4, .ref z5, .ref z6, .ref z7, .int 0])), (z1, .inl (cA 0, 6, .inl (fun _ => 0))), (z2, .inl (cA 0, 6, .inl (fun _ => 0))), (z3, .inl (cA 0, 6, .inl (fun _ => 0))), (z4, .inl (cA 0, 6, .inl (fun _ => 0))), (z5, .inl (cA 0, 6, .inl (fun _ => 0))), (z6, .inl (cA 0, 6, .inl (fun _ => 0))), (z7, .inl (cA 0, 6, .inl (fun _ => 0)))] t.heap ∧ va_D (va_A [(h0, .inr (0, [.null, .null, .null, .null, .null, .null, .null, .int 0]))] sz) [(h0, .inr (0, [.ref z1, .ref z2, .ref z3, .ref z4, .ref z5, .ref z6, .ref z7, .int 0])), (z1, .inl (cA 0, 6, .inl (fun _ => 0))), (z2, .inl (cA 0, 6, .inl (fun _ => 0))), (z3, .inl (cA 0, 6, .inl (fun _ => 0))), (z4, .inl (cA 0, 6, .inl (fun _ => 0))), (z5, .inl (cA 0, 6, .inl (fun _ => 0))), (z6, .inl (cA 0, 6, .inl (fun _ => 0))), (z7, .inl (cA 0, 6, .inl (fun _ => 0)))]) (va_A [(h0, .inr (0, [.null, .null, .null, .null, .null, .null, .null, .int 0]))] sz)) 7 42 (va_A [(h0, .inr (0, [.null, .null, .null, .null, .null, .null, .null, .int 0]))] sz) := by
  refine Met.ofW (cc := cX0_init) (maxL := 1) (ret := none) (by decide) rfl ?_
  intro p e s m args below meth c s₁ B hml hv
  obtain ⟨rfl, hsz, hP, hK, hN, hD0⟩ := hv
  have hx := B.exec
  have hb := B.bytes
  have hr := B.returns
  have hts : ∀ w ∈ TB, w.before _ s = true := fun w hw => atoms_spec (ws := Cond.code yX0_init cX0_init 1 none :: TB) B.pre w (List.mem_cons_of_mem _ hw)
  have hown : s.vm.findClass RX0 = some m.cls := findClass_of_methodNamed B.named
  have hlocks := B.notSynchronized
  have hin : meth.name = "<init>" := (name_of_methodNamed B.named B.method).1
  subst hsz
  have hD := hD0.self (sz := s.heap.size)
  generalize hAe : va_A [(h0, .inr (0, [.null, .null, .null, .null, .null, .null, .null, .int 0]))] s.heap.size = A at hD ⊢
  have hA : ∀ q : Nat, s.heap.size ≤ q → A q := fun q h => by rw [← hAe]; exact Or.inr h
  have hS : va_S A s.heap s.heap [] := va_S.rf
  have hl := lv_entry ([.ref h0]) (n := 1) (Nat.le_of_ble_eq_true rfl)
  rw [lg_entry_eq]
  generalize (lg_sl ([.ref h0]) ++ List.replicate (1 - (lg_sl ([.ref h0])).length) Slot.unset).toArray = ls at hl ⊢
  have hl : lv_has ls 1 [(0, .ref h0)] := hl
  have hP : va_P D vwCl [(h0, .inr (0, [.null, .null, .null, .null, .null, .null, .null, .int 0]))] s.heap := hP
  refine lv_aload_n hx hb dX0_init_0 rfl (lv_at hl 0 rfl) ?_
  refine W.objInit hx hb hown (hts _ (tb_of 101 (by decide +kernel) rfl)) (hts _ (tb_of 88 (by decide +kernel) rfl)) (hts _ (tb_of 89 (by decide +kernel) rfl)) rfl (by rw [hml]; exact hl.1) rfl dX0_init_1 (Nat.le_of_ble_eq_true rfl) (Nat.le_of_ble_eq_true rfl) ?_
  refine W.eq (g2 := F0 m 4 ls []) rfl ?_
  refine lv_aload_n hx hb dX0_init_4 rfl (lv_at hl 0 rfl) ?_
  refine lv_bipush (v := 6) hx hb dX0_init_5 (by decide) ?_
  refine va_newI hx hb (hts _ (tb_of 140 (by decide +kernel) rfl)) hK hP hD hS hA (N := 6) (by decide) rfl (Nat.le_of_ble_eq_true rfl) (Nat.le_of_ble_eq_true rfl) (Nat.le_of_ble_eq_true rfl) dX0_init_7 (fun z1 H hP hD hS => ?_)
  have hP : va_P D vwCl [(h0, .inr (0, [.null, .null, .null, .null, .null, .null, .null, .int 0])), (z1, .inl (cA 0, 6, .inl (fun _ => 0)))] H := hP
  have hD : va_D A [(h0, .inr (0, [.null, .null, .null, .null, .null, .null, .null, .int 0])), (z1, .inl (cA 0, 6, .inl (fun _ => 0)))] := hD
  refine va_putF (D := D) (ci := 0) (v := .ref z1) (ty := .array .int) (C := RX0) (T := TX0) (N := 8) hx hb hts cf_0.2.1 tyX0 tyX0_ok nmX0 hown hK hP hD hS 0 rfl rfl 0 (by decide) (hts _ (tb_of 102 (by decide +kernel) rfl)) (fun _ h9 => h9) rfl hin rfl (by decide +kernel) rfl rfl (Nat.le_of_ble_eq_true rfl) dX0_init_9 (fun H locs hP hD hS => ?_)
  have hP : va_P D vwCl [(h0, .inr (0, [.ref z1, .null, .null, .null, .null, .null, .null, .int 0])), (z1, .inl (cA 0, 6, .inl (fun _ => 0)))] H := hP
  have hD : va_D A [(h0, .inr (0, [.ref z1, .null, .null, .null, .null, .null, .null, .int 0])), (z1, .inl (cA 0, 6, .inl (fun _ => 0)))] := hD
  refine lv_aload_n hx hb dX0_init_12 rfl (lv_at hl 0 rfl) ?_
  refine lv_bipush (v := 6) hx hb dX0_init_13 (by decide) ?_
  refine va_newI hx hb (hts _ (tb_of 140 (by decide +kernel) rfl)) hK hP hD hS hA (N := 6) (by decide) rfl (Nat.le_of_ble_eq_true rfl) (Nat.le_of_ble_eq_true rfl) (Nat.le_of_ble_eq_true rfl) dX0_init_15 (fun z2 H hP hD hS => ?_)
  have hP : va_P D vwCl [(h0, .inr (0, [.ref z1, .null, .null, .null, .null, .null, .null, .int 0])), (z1, .inl (cA 0, 6, .inl (fun _ => 0))), (z2, .inl (cA 0, 6, .inl (fun _ => 0)))] H := hP
  have hD : va_D A [(h0, .inr (0, [.ref z1, .null, .null, .null, .null, .null, .null, .int 0])), (z1, .inl (cA 0, 6, .inl (fun _ => 0))), (z2, .inl (cA 0, 6, .inl (fun _ => 0)))] := hD
  refine va_putF (D := D) (ci := 0) (v := .ref z2) (ty := .array .int) (C := RX0) (T := TX0) (N := 8) hx hb hts cf_0.2.1 tyX0 tyX0_ok nmX0 hown hK hP hD hS 0 rfl rfl 1 (by decide) (hts _ (tb_of 104 (by decide +kernel) rfl)) (fun _ h9 => h9) rfl hin rfl (by decide +kernel) rfl rfl (Nat.le_of_ble_eq_true rfl) dX0_init_17 (fun H locs hP hD hS => ?_)
  have hP : va_P D vwCl [(h0, .inr (0, [.ref z1, .ref z2, .null, .null, .null, .null, .null, .int 0])), (z1, .inl (cA 0, 6, .inl (fun _ => 0))), (z2, .inl (cA 0, 6, .inl (fun _ => 0)))] H := hP
  have hD : va_D A [(h0, .inr (0, [.ref z1, .ref z2, .null, .null, .null, .null, .null, .int 0])), (z1, .inl (cA 0, 6, .inl (fun _ => 0))), (z2, .inl (cA 0, 6, .inl (fun _ => 0)))] := hD
  refine lv_aload_n hx hb dX0_init_20 rfl (lv_at hl 0 rfl) ?_
  refine lv_bipush (v := 6) hx hb dX0_init_21 (by decide) ?_
  refine va_newI hx hb (hts _ (tb_of 140 (by decide +kernel) rfl)) hK hP hD hS hA (N := 6) (by decide) rfl (Nat.le_of_ble_eq_true rfl) (Nat.le_of_ble_eq_true rfl) (Nat.le_of_ble_eq_true rfl) dX0_init_23 (fun z3 H hP hD hS => ?_)
  have hP : va_P D vwCl [(h0, .inr (0, [.ref z1, .ref z2, .null, .null, .null, .null, .null, .int 0])), (z1, .inl (cA 0, 6, .inl (fun _ => 0))), (z2, .inl (cA 0, 6, .inl (fun _ => 0))), (z3, .inl (cA 0, 6, .inl (fun _ => 0)))] H := hP
  have hD : va_D A [(h0, .inr (0, [.ref z1, .ref z2, .null, .null, .null, .null, .null, .int 0])), (z1, .inl (cA 0, 6, .inl (fun _ => 0))), (z2, .inl (cA 0, 6, .inl (fun _ => 0))), (z3, .inl (cA 0, 6, .inl (fun _ => 0)))] := hD
  refine va_putF (D := D) (ci := 0) (v := .ref z3) (ty := .array .int) (C := RX0) (T := TX0) (N := 8) hx hb hts cf_0.2.1 tyX0 tyX0_ok nmX0 hown hK hP hD hS 0 rfl rfl 2 (by decide) (hts _ (tb_of 105 (by decide +kernel) rfl)) (fun _ h9 => h9) rfl hin rfl (by decide +kernel) rfl rfl (Nat.le_of_ble_eq_true rfl) dX0_init_25 (fun H locs hP hD hS => ?_)
  have hP : va_P D vwCl [(h0, .inr (0, [.ref z1, .ref z2, .ref z3, .null, .null, .null, .null, .int 0])), (z1, .inl (cA 0, 6, .inl (fun _ => 0))), (z2, .inl (cA 0, 6, .inl (fun _ => 0))), (z3, .inl (cA 0, 6, .inl (fun _ => 0)))] H := hP
  have hD : va_D A [(h0, .inr (0, [.ref z1, .ref z2, .ref z3, .null, .null, .null, .null, .int 0])), (z1, .inl (cA 0, 6, .inl (fun _ => 0))), (z2, .inl (cA 0, 6, .inl (fun _ => 0))), (z3, .inl (cA 0, 6, .inl (fun _ => 0)))] := hD
  refine lv_aload_n hx hb dX0_init_28 rfl (lv_at hl 0 rfl) ?_
  refine lv_bipush (v := 6) hx hb dX0_init_29 (by decide) ?_
  refine va_newI hx hb (hts _ (tb_of 140 (by decide +kernel) rfl)) hK hP hD hS hA (N := 6) (by decide) rfl (Nat.le_of_ble_eq_true rfl) (Nat.le_of_ble_eq_true rfl) (Nat.le_of_ble_eq_true rfl) dX0_init_31 (fun z4 H hP hD hS => ?_)
  have hP : va_P D vwCl [(h0, .inr (0, [.ref z1, .ref z2, .ref z3, .null, .null, .null, .null, .int 0])), (z1, .inl (cA 0, 6, .inl (fun _ => 0))), (z2, .inl (cA 0, 6, .inl (fun _ => 0))), (z3, .inl (cA 0, 6, .inl (fun _ => 0))), (z4, .inl (cA 0, 6, .inl (fun _ => 0)))] H := hP
  have hD : va_D A [(h0, .inr (0, [.ref z1, .ref z2, .ref z3, .null, .null, .null, .null, .int 0])), (z1, .inl (cA 0, 6, .inl (fun _ => 0))), (z2, .inl (cA 0, 6, .inl (fun _ => 0))), (z3, .inl (cA 0, 6, .inl (fun _ => 0))), (z4, .inl (cA 0, 6, .inl (fun _ => 0)))] := hD
  refine va_putF (D := D) (ci := 0) (v := .ref z4) (ty := .array .int) (C := RX0) (T := TX0) (N := 8) hx hb hts cf_0.2.1 tyX0 tyX0_ok nmX0 hown hK hP hD hS 0 rfl rfl 3 (by decide) (hts _ (tb_of 107 (by decide +kernel) rfl)) (fun _ h9 => h9) rfl hin rfl (by decide +kernel) rfl rfl (Nat.le_of_ble_eq_true rfl) dX0_init_33 (fun H locs hP hD hS => ?_)
  have hP : va_P D vwCl [(h0, .inr (0, [.ref z1, .ref z2, .ref z3, .ref z4, .null, .null, .null, .int 0])), (z1, .inl (cA 0, 6, .inl (fun _ => 0))), (z2, .inl (cA 0, 6, .inl (fun _ => 0))), (z3, .inl (cA 0, 6, .inl (fun _ => 0))), (z4, .inl (cA 0, 6, .inl (fun _ => 0)))] H := hP
  have hD : va_D A [(h0, .inr (0, [.ref z1, .ref z2, .ref z3, .ref z4, .null, .null, .null, .int 0])), (z1, .inl (cA 0, 6, .inl (fun _ => 0))), (z2, .inl (cA 0, 6, .inl (fun _ => 0))), (z3, .inl (cA 0, 6, .inl (fun _ => 0))), (z4, .inl (cA 0, 6, .inl (fun _ => 0)))] := hD
  refine lv_aload_n hx hb dX0_init_36 rfl (lv_at hl 0 rfl) ?_
  refine lv_bipush (v := 6) hx hb dX0_init_37 (by decide) ?_
  refine va_newI hx hb (hts _ (tb_of 140 (by decide +kernel) rfl)) hK hP hD hS hA (N := 6) (by decide) rfl (Nat.le_of_ble_eq_true rfl) (Nat.le_of_ble_eq_true rfl) (Nat.le_of_ble_eq_true rfl) dX0_init_39 (fun z5 H hP hD hS => ?_)
  have hP : va_P D vwCl [(h0, .inr (0, [.ref z1, .ref z2, .ref z3, .ref z4, .null, .null, .null, .int 0])), (z1, .inl (cA 0, 6, .inl (fun _ => 0))), (z2, .inl (cA 0, 6, .inl (fun _ => 0))), (z3, .inl (cA 0, 6, .inl (fun _ => 0))), (z4, .inl (cA 0, 6, .inl (fun _ => 0))), (z5, .inl (cA 0, 6, .inl (fun _ => 0)))] H := hP
  have hD : va_D A [(h0, .inr (0, [.ref z1, .ref z2, .ref z3, .ref z4, .null, .null, .null, .int 0])), (z1, .inl (cA 0, 6, .inl (fun _ => 0))), (z2, .inl (cA 0, 6, .inl (fun _ => 0))), (z3, .inl (cA 0, 6, .inl (fun _ => 0))), (z4, .inl (cA 0, 6, .inl (fun _ => 0))), (z5, .inl (cA 0, 6, .inl (fun _ => 0)))] := hD
  refine va_putF (D := D) (ci := 0) (v := .ref z5) (ty := .array .int) (C := RX0) (T := TX0) (N := 8) hx hb hts cf_0.2.1 tyX0 tyX0_ok nmX0 hown hK hP hD hS 0 rfl rfl 4 (by decide) (hts _ (tb_of 109 (by decide +kernel) rfl)) (fun _ h9 => h9) rfl hin rfl (by decide +kernel) rfl rfl (Nat.le_of_ble_eq_true rfl) dX0_init_41 (fun H locs hP hD hS => ?_)
  have hP : va_P D vwCl [(h0, .inr (0, [.ref z1, .ref z2, .ref z3, .ref z4, .ref z5, .null, .null, .int 0])), (z1, .inl (cA 0, 6, .inl (fun _ => 0))), (z2, .inl (cA 0, 6, .inl (fun _ => 0))), (z3, .inl (cA 0, 6, .inl (fun _ => 0))), (z4, .inl (cA 0, 6, .inl (fun _ => 0))), (z5, .inl (cA 0, 6, .inl (fun _ => 0)))] H := hP
  have hD : va_D A [(h0, .inr (0, [.ref z1, .ref z2, .ref z3, .ref z4, .ref z5, .null, .null, .int 0])), (z1, .inl (cA 0, 6, .inl (fun _ => 0))), (z2, .inl (cA 0, 6, .inl (fun _ => 0))), (z3, .inl (cA 0, 6, .inl (fun _ => 0))), (z4, .inl (cA 0, 6, .inl (fun _ => 0))), (z5, .inl (cA 0, 6, .inl (fun _ => 0)))] := hD
  refine lv_aload_n hx hb dX0_init_44 rfl (lv_at hl 0 rfl) ?_
  refine lv_bipush (v := 6) hx hb dX0_init_45 (by decide) ?_
  refine va_newI hx hb (hts _ (tb_of 140 (by decide +kernel) rfl)) hK hP hD hS hA (N := 6) (by decide) rfl (Nat.le_of_ble_eq_true rfl) (Nat.le_of_ble_eq_true rfl) (Nat.le_of_ble_eq_true rfl) dX0_init_47 (fun z6 H hP hD hS => ?_)
  have hP : va_P D vwCl [(h0, .inr (0, [.ref z1, .ref z2, .ref z3, .ref z4, .ref z5, .null, .null, .int 0])), (z1, .inl (cA 0, 6, .inl (fun _ => 0))), (z2, .inl (cA 0, 6, .inl (fun _ => 0))), (z3, .inl (cA 0, 6, .inl (fun _ => 0))), (z4, .inl (cA 0, 6, .inl (fun _ => 0))), (z5, .inl (cA 0, 6, .inl (fun _ => 0))), (z6, .inl (cA 0, 6, .inl (fun _ => 0)))] H := hP
  have hD : va_D A [(h0, .inr (0, [.ref z1, .ref z2, .ref z3, .ref z4, .ref z5, .null, .null, .int 0])), (z1, .inl (cA 0, 6, .inl (fun _ => 0))), (z2, .inl (cA 0, 6, .inl (fun _ => 0))), (z3, .inl (cA 0, 6, .inl (fun _ => 0))), (z4, .inl (cA 0, 6, .inl (fun _ => 0))), (z5, .inl (cA 0, 6, .inl (fun _ => 0))), (z6, .inl (cA 0, 6, .inl (fun _ => 0)))] := hD
  refine va_putF (D := D) (ci := 0) (v := .ref z6) (ty := .array .int) (C := RX0) (T := TX0) (N := 8) hx hb hts cf_0.2.1 tyX0 tyX0_ok nmX0 hown hK hP hD hS 0 rfl rfl 5 (by decide) (hts _ (tb_of 113 (by decide +kernel) rfl)) (fun _ h9 => h9) rfl hin rfl (by decide +kernel) rfl rfl (Nat.le_of_ble_eq_true rfl) dX0_init_49 (fun H locs hP hD hS => ?_)
  have hP : va_P D vwCl [(h0, .inr (0, [.ref z1, .ref z2, .ref z3, .ref z4, .ref z5, .ref z6, .null, .int 0])), (z1, .inl (cA 0, 6, .inl (fun _ => 0))), (z2, .inl (cA 0, 6, .inl (fun _ => 0))), (z3, .inl (cA 0, 6, .inl (fun _ => 0))), (z4, .inl (cA 0, 6, .inl (fun _ => 0))), (z5, .inl (cA 0, 6, .inl (fun _ => 0))), (z6, .inl (cA 0, 6, .inl (fun _ => 0)))] H := hP
  have hD : va_D A [(h0, .inr (0, [.ref z1, .ref z2, .ref z3, .ref z4, .ref z5, .ref z6, .null, .int 0])), (z1, .inl (cA 0, 6, .inl (fun _ => 0))), (z2, .inl (cA 0, 6, .inl (fun _ => 0))), (z3, .inl (cA 0, 6, .inl (fun _ => 0))), (z4, .inl (cA 0, 6, .inl (fun _ => 0))), (z5, .inl (cA 0, 6, .inl (fun _ => 0))), (z6, .inl (cA 0, 6, .inl (fun _ => 0)))] := hD
  refine lv_aload_n hx hb dX0_init_52 rfl (lv_at hl 0 rfl) ?_
  refine lv_bipush (v := 6) hx hb dX0_init_53 (by decide) ?_
  refine va_newI hx hb (hts _ (tb_of 140 (by decide +kernel) rfl)) hK hP hD hS hA (N := 6) (by decide) rfl (Nat.le_of_ble_eq_true rfl) (Nat.le_of_ble_eq_true rfl) (Nat.le_of_ble_eq_true rfl) dX0_init_55 (fun z7 H hP hD hS => ?_)
  have hP : va_P D vwCl [(h0, .inr (0, [.ref z1, .ref z2, .ref z3, .ref z4, .ref z5, .ref z6, .null, .int 0])), (z1, .inl (cA 0, 6, .inl (fun _ => 0))), (z2, .inl (cA 0, 6, .inl (fun _ => 0))), (z3, .inl (cA 0, 6, .inl (fun _ => 0))), (z4, .inl (cA 0, 6, .inl (fun _ => 0))), (z5, .inl (cA 0, 6, .inl (fun _ => 0))), (z6, .inl (cA 0, 6, .inl (fun _ => 0))), (z7, .inl (cA 0, 6, .inl (fun _ => 0)))] H := hP
  have hD : va_D A [(h0, .inr (0, [.ref z1, .ref z2, .ref z3, .ref z4, .ref z5, .ref z6, .null, .int 0])), (z1, .inl (cA 0, 6, .inl (fun _ => 0))), (z2, .inl (cA 0, 6, .inl (fun _ => 0))), (z3, .inl (cA 0, 6, .inl (fun _ => 0))), (z4, .inl (cA 0, 6, .inl (fun _ => 0))), (z5, .inl (cA 0, 6, .inl (fun _ => 0))), (z6, .inl (cA 0, 6, .inl (fun _ => 0))), (z7, .inl (cA 0, 6, .inl (fun _ => 0)))] := hD
  refine va_putF (D := D) (ci := 0) (v := .ref z7) (ty := .array .int) (C := RX0) (T := TX0) (N := 8) hx hb hts cf_0.2.1 tyX0 tyX0_ok nmX0 hown hK hP hD hS 0 rfl rfl 6 (by decide) (hts _ (tb_of 116 (by decide +kernel) rfl)) (fun _ h9 => h9) rfl hin rfl (by decide +kernel) rfl rfl (Nat.le_of_ble_eq_true rfl) dX0_init_57 (fun H locs hP hD hS => ?_)
  have hP : va_P D vwCl [(h0, .inr (0, [.ref z1, .ref z2, .ref z3, .ref z4, .ref z5, .ref z6, .ref z7, .int 0])), (z1, .inl (cA 0, 6, .inl (fun _ => 0))), (z2, .inl (cA 0, 6, .inl (fun _ => 0))), (z3, .inl (cA 0, 6, .inl (fun _ => 0))), (z4, .inl (cA 0, 6, .inl (fun _ => 0))), (z5, .inl (cA 0, 6, .inl (fun _ => 0))), (z6, .inl (cA 0, 6, .inl (fun _ => 0))), (z7, .inl (cA 0, 6, .inl (fun _ => 0)))] H := hP
  have hD : va_D A [(h0, .inr (0, [.ref z1, .ref z2, .ref z3, .ref z4, .ref z5, .ref z6, .ref z7, .int 0])), (z1, .inl (cA 0, 6, .inl (fun _ => 0))), (z2, .inl (cA 0, 6, .inl (fun _ => 0))), (z3, .inl (cA 0, 6, .inl (fun _ => 0))), (z4, .inl (cA 0, 6, .inl (fun _ => 0))), (z5, .inl (cA 0, 6, .inl (fun _ => 0))), (z6, .inl (cA 0, 6, .inl (fun _ => 0))), (z7, .inl (cA 0, 6, .inl (fun _ => 0)))] := hD
  refine W.widen (k := 7) (n := 42) (Nat.le_of_ble_eq_true rfl) (Nat.le_of_ble_eq_true rfl) ?_
  exact W.vret hx hb hr (fun t ht hW => ⟨⟨(), rfl, trivial, z1, z2, z3, z4, z5, z6, z7, by rw [ht]; exact hP, hD⟩, hS.F ht⟩) hS.2.2 dX0_init_60

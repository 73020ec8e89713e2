section CA
variable {G : GC} {X Y : MI} {n n' : Nat} {pc : Nat} {L : List (Nat × Value)} {S : List Value} {M : MM} {r : Option Value} {M' : MM}
theorem fn_intro {as : List Value} (hX : MOk X) (hl : (lg_sl as).length ≤ X.2.2.1) (h : ∀ G : GC, Good G X n → GoodR G r M' → Ev G 0 (lv_args 0 as) [] M) : Fn n X as M r M' := by
  intro w
  refine Met.ofWF (cc := X.2.1) (maxL := X.2.2.1) (ret := X.2.2.2) hX.1 rfl ?_
  intro p e s m args below meth c s₁ B hml hv
  obtain ⟨rfl, hP, hK, hN, hD⟩ := hv
  have hts := atoms_spec (ws := wsM X) B.pre
  have g := h (w, p, e, rmM n, s, m, (as.map (cv w.2.1)).toArray, below, meth, c, MQ below (FQ w r M') (as.map (cv w.2.1)).toArray s 0 0 (inW w.2.1), inW w.2.1, 0, 0)
    ⟨B.exec, B.bytes, hml, findClass_of_methodNamed B.named, fun w hw => hts w (List.mem_cons_of_mem _ hw), hN, B.returns, B.notSynchronized, hK, wl_D M0 (D_inW hD), Nat.le_refl 0, Nat.le_refl 0, Nat.le_refl n, Nat.le_refl _⟩ ⟨rfl, rfl⟩
  have hle : (lg_sl (as.map (cv w.2.1))).length ≤ X.2.2.1 := by rw [lg_sl_cv]; exact hl
  have hl9 := lv_entry (as.map (cv w.2.1)) (n := X.2.2.1) hle
  rw [lv_args_cv] at hl9
  rw [lg_entry_eq]
  exact g s.heap [] _ hP va_S.rf (by rw [hml]; exact hl9)
theorem gr_locs (gr : GoodR G r M') {H : Heap} {locs : List Loc} (hS : va_S (gA G) (gs G).heap H locs) : ∀ q ∈ locs, inW (gad G) q.base := fun q hq => by
  have := hS.2.2 q hq
  rw [gr.2] at this
  exact this
theorem gr_F (gr : GoodR G r M') {H : Heap} {locs : List Loc} (hS : va_S (gA G) (gs G).heap H locs) {t : State} (ht : t.heap = H) : va_F (inW (gad G)) (gs G) t := by
  have := hS.F ht
  rw [gr.2] at this
  exact this
theorem e_iret {v : Int32} (g : Good G X n) (gr : GoodR G r M') (hX : X.2.2.2 = some .int) (d : decode X.2.1 pc = .ok (.ireturn, 1)) (h : r = some (.int v) ∧ M' = M) : Ev G pc L [.int v] M := by
  intro H locs ls hP hS hl
  obtain ⟨rfl, rfl⟩ := h
  rw [gr.1]
  exact W.iret (v := v) g.x g.b (by rw [g.r, hX]) (fun t ht hW => ⟨⟨rfl, by rw [ht]; exact hP⟩, gr_F gr hS ht⟩) (gr_locs gr hS) d g.lk
theorem e_zret {v : Int32} (g : Good G X n) (gr : GoodR G r M') (hX : X.2.2.2 = some .boolean) (hv : v = 0 ∨ v = 1) (d : decode X.2.1 pc = .ok (.ireturn, 1)) (h : r = some (.int v) ∧ M' = M) : Ev G pc L [.int v] M := by
  intro H locs ls hP hS hl
  obtain ⟨rfl, rfl⟩ := h
  rw [gr.1]
  exact W.zret (v := v) (ty := .boolean) g.x g.b (by rw [g.r, hX]) (by rcases hv with rfl | rfl <;> rfl) (fun t ht hW => ⟨⟨rfl, by rw [ht]; exact hP⟩, gr_F gr hS ht⟩) (gr_locs gr hS) d g.lk
theorem e_lret {v : Int64} (g : Good G X n) (gr : GoodR G r M') (hX : X.2.2.2 = some .long) (d : decode X.2.1 pc = .ok (.lreturn, 1)) (h : r = some (.long v) ∧ M' = M) : Ev G pc L [.long v] M := by
  intro H locs ls hP hS hl
  obtain ⟨rfl, rfl⟩ := h
  rw [gr.1]
  exact W.lret (v := v) g.x g.b (by rw [g.r, hX]) (fun t ht hW => ⟨⟨rfl, by rw [ht]; exact hP⟩, gr_F gr hS ht⟩) (gr_locs gr hS) d g.lk
theorem e_vret (g : Good G X n) (gr : GoodR G r M') (hX : X.2.2.2 = none) (d : decode X.2.1 pc = .ok (.return_, 1)) (h : r = none ∧ M' = M) : Ev G pc L [] M := by
  intro H locs ls hP hS hl
  obtain ⟨rfl, rfl⟩ := h
  rw [gr.1]
  exact W.vret g.x g.b (by rw [g.r, hX]) (fun t ht hW => ⟨⟨rfl, by rw [ht]; exact hP⟩, gr_F gr hS ht⟩) (gr_locs gr hS) d g.lk
theorem fp_blind {w : WC} {av : List Value} {M : MM} : FrameBlind (va_Pc av (FP w M)) := by
  intro a U g mk h
  obtain ⟨h0, hP, hK, hN, hD⟩ := h
  exact ⟨h0, hP, va_K.moved (u := U) (U := U.calling g mk a) (Vm.Alike.refl U.vm) hK, nb_same (u := U) (U := U.calling g mk a) rfl hN, hD⟩
theorem fp_pre (g : Good G X n) {H : Heap} (hP : va_P (gD G) vwCl (wl (gad G) (gcA G) M) H) {U : State} (hU : U.heap = H) (hW : (gs G).WarmedH U.vm) : FP G.1 M U :=
  ⟨by rw [hU]; exact hP, va_K.moved hW.alike g.K, nb_warm hW g.nb, (g.D M).weaken (fun _ _ _ _ => trivial)⟩
/-- behind a call: the memory that the callee left, its answer on the stack -/
theorem ev_run {st0 : List Value} {a : Array Value} (g : Good G X n) (hr : ∀ (H : Heap) (locs : List Loc) (ls : Array Slot), ls.size = (gc G).maxLocals → va_P (gD G) vwCl (wl (gad G) (gcA G) M) H → va_Run (gp G) G.1.1 (ge G) (gR G) (gs G) (gm G) (gargs G) (gbelow G) (gmeth G) (gc G) H locs (gcl G) (gsl G) 0 0 (F0 (gm G) pc ls (st0.map (cv (gad G)))) (S.map (cv (gad G))) (FQ G.1 r M' a) (inW (gad G)))
    (k : Ev G (pc + 3) L (r.toList ++ S) M') : Ev G pc L st0 M := by
  intro H locs ls hP hS hl T hT Xs
  have hF := inW_D (g.D M)
  obtain ⟨v, st₀, t, T', L9, h0, X', hL, e1, e2, ⟨⟨hv, hp⟩, hz, hk⟩, st⟩ := hr H locs ls hl.1 hP T hT Xs
  cases hv
  rw [h0] at hz hk
  obtain ⟨t2, a1, b1⟩ := k T'.heap (locs ++ L9) ls (by rw [e1]; exact hp) ⟨Nat.le_trans hS.1 (by rw [e1]; exact hz), fun q h1 h2 => by rw [e1, hk q (Nat.lt_of_lt_of_le h1 hS.1) (fun z => h2 (hF q z))]; exact hS.2.1 q h1 h2, fun q hq => by
      rcases List.mem_append.mp hq with h | h
      · exact hS.2.2 q h
      · exact hF _ (hL q h)⟩ hl T' rfl X'
  refine ⟨t2, st t2 ?_, b1⟩
  have e9 : (r.toList ++ S).map (cv (gad G)) = (r.map (cv (gad G))).toList ++ S.map (cv (gad G)) := by cases r <;> simp
  rw [e9] at a1
  exact a1
/-- entry i of class own is method Y, instance (C: its class) or static -/
def MLV (own : String) (i : Nat) (Y : MI) (a : Nat) : Prop := (Cond.methodLink own i Y.1 ∈ TB ∨ ∃ host : String, Cond.methodLinkNest own i Y.1 host ∈ NB) ∧ Cond.instanceMethod Y.1 ∈ TB ∧ Cond.selects Y.1.cls Y.1 Y.1 ∈ TB ∧ (parseMethodDescriptor Y.1.desc).map (fun d => d.parameters.length) = some a
def MLS (own : String) (i : Nat) (Y : MI) (a : Nat) : Prop := (Cond.methodLink own i Y.1 ∈ TB ∨ ∃ host : String, Cond.methodLinkNest own i Y.1 host ∈ NB) ∧ Cond.static Y.1 ∈ TB ∧ (parseMethodDescriptor Y.1.desc).map (fun d => d.parameters.length) = some a
theorem cat_sum (ad : Nat → Nat) (S : List Value) : ((S.map (cv ad)).map fun v => v.category).sum = (S.map fun v => v.category).sum := by
  rw [List.map_map]
  congr 1
  apply List.map_congr_left
  intro a _
  exact cv_cat ad a
theorem room_ok (g : Good G X n) (hY : MOk Y) (hn : n' + 1 ≤ n) : (rmM n').frames + 1 ≤ (gR G).frames ∧ 8 + (Y.2.2.1 + 11) + (rmM n').locals ≤ (gR G).locals := by
  have h1 := g.rf
  have h2 := g.rl
  have h3 := hY.2.2.2.2
  refine ⟨Nat.le_trans hn h1, ?_⟩
  show 8 + (Y.2.2.1 + 11) + 100 * n' ≤ _
  omega
theorem e_callV {ci c0 k : Nat} {fk : List Nat} {i : Nat} {As st0 : List Value} (g : Good G X n) (hY : MOk Y) (ml : MLV X.1.cls i Y As.length) (hs : shp k = (0, ci, c0, fk)) (hci : ∃ q : vw_C, vwCl[ci]? = some q ∧ q.1 = Y.1.cls) (hF : Fn n' Y (.ref k :: As) M r M') (hn : n' + 1 ≤ n) (hst : As.reverse ++ .ref k :: S = st0) (hW : (S.map fun v => v.category).sum ≤ 8) (d : decode X.2.1 pc = .ok (.invokevirtual i, 3))
    (kk : Ev G (pc + 3) L (r.toList ++ S) M') : Ev G pc L st0 M := by
  refine ev_run (S := S) (a := ((Value.ref k :: As).map (cv (gad G))).toArray) g (fun H locs ls hls hP => ?_) kk
  obtain ⟨q, hq, hqc⟩ := hci
  obtain ⟨hlk, hin, hse, har⟩ := ml
  have he := wl_at (gad G) (gcA G) M (shp_lt hs (by simp))
  rw [ce_obj hs] at he
  have hcell := hP k _ he
  obtain ⟨r9, h1, cell, q1, q2, q3, q4⟩ := hcell
  have hr9 : r9 = q := Option.some.inj (h1.symm.trans hq)
  subst hr9
  have hcls : (gs G).vm.findClass Y.1.cls = some cell.cls := by
    obtain ⟨-, hfc, -⟩ := g.K.1 ci _ hq
    rw [← hqc, hfc, q2]
  have hpre : PreV (gs G) H Y.1.cls (gad G k) (va_Pc ((Value.ref k :: As).map (cv (gad G))) (FP G.1 M)) (As.map (cv (gad G))) :=
    ⟨fp_blind, ⟨cell, q1, by rw [q3]; rfl, hcls⟩, fun U hU hW9 => ⟨rfl, fp_pre g hP hU hW9⟩⟩
  have hstk : (F0 (gm G) pc ls (st0.map (cv (gad G)))).stack = (As.map (cv (gad G))).reverse ++ .ref (gad G k) :: S.map (cv (gad G)) := by
    show st0.map (cv (gad G)) = _
    rw [← hst]
    simp [cv]
  have hwd : ∀ w ∈ wsM Y, w ∈ TB := fun w hw => (List.mem_cons.mp hw).elim (fun e => by rw [e]; exact hY.2.1) id
  have hroom : 2 * (F0 (gm G) pc ls (st0.map (cv (gad G)))).monitorRoom + ((S.map (cv (gad G))).map fun v => v.category).sum ≤ 8 := lv_room (by rw [cat_sum]; exact hW)
  rcases hlk with hlk | ⟨host, hlk⟩
  · refine va_runV ⟨g.x, g.b, g.ml, g.own, g.ts⟩ (hF G.1) (cwV (ws' := TB) As.length g.ts (goodIn_tb (fun w hw => ?_)) rfl rfl rfl ⟨rfl, hY.2.2.2.1.1, hY.2.2.2.1.2, har⟩ (room_ok g hY hn)) hpre rfl (by simp) (by rw [hls, g.ml]) hstk hroom d ⟨g.rc, g.rs⟩
    rcases List.mem_append.mp hw with h | h
    · simp only [List.mem_cons, List.not_mem_nil, or_false] at h
      rcases h with rfl | rfl | rfl | rfl
      · exact hlk
      · exact hin
      · exact hse
      · exact hY.2.2.1
    · exact hwd w h
  · exact va_runVN ⟨g.x, g.b, g.ml, g.own, g.ts⟩ (hF G.1) ⟨va_cnB (ws' := TB) As.length g.ts (goodIn_tb hwd) rfl rfl rfl (g.nb _ hlk) (g.ts _ hY.2.2.1) ⟨hY.2.2.2.1.1, hY.2.2.2.1.2, har⟩ (room_ok g hY hn), g.ts _ hin, g.ts _ hse⟩ hpre rfl (by simp) (by rw [hls, g.ml]) hstk hroom d ⟨g.rc, g.rs⟩
theorem e_callS {i : Nat} {As st0 : List Value} (g : Good G X n) (hY : MOk Y) (ml : MLS X.1.cls i Y As.length) (hF : Fn n' Y As M r M') (hn : n' + 1 ≤ n) (hst : As.reverse ++ S = st0) (hW : (S.map fun v => v.category).sum ≤ 8) (d : decode X.2.1 pc = .ok (.invokestatic i, 3))
    (kk : Ev G (pc + 3) L (r.toList ++ S) M') : Ev G pc L st0 M := by
  refine ev_run (S := S) (a := (As.map (cv (gad G))).toArray) g (fun H locs ls hls hP => ?_) kk
  obtain ⟨hlk, hin, har⟩ := ml
  have hpre : PreS (gs G) H (va_Pc (As.map (cv (gad G))) (FP G.1 M)) (As.map (cv (gad G))) :=
    ⟨fp_blind, fun U hU hW9 => ⟨rfl, fp_pre g hP hU hW9⟩⟩
  have hstk : (F0 (gm G) pc ls (st0.map (cv (gad G)))).stack = (As.map (cv (gad G))).reverse ++ S.map (cv (gad G)) := by
    show st0.map (cv (gad G)) = _
    rw [← hst]
    simp
  have hwd : ∀ w ∈ wsM Y, w ∈ TB := fun w hw => (List.mem_cons.mp hw).elim (fun e => by rw [e]; exact hY.2.1) id
  have hroom : 2 * (F0 (gm G) pc ls (st0.map (cv (gad G)))).monitorRoom + ((S.map (cv (gad G))).map fun v => v.category).sum ≤ 8 := lv_room (by rw [cat_sum]; exact hW)
  rcases hlk with hlk | ⟨host, hlk⟩
  · refine va_runS ⟨g.x, g.b, g.ml, g.own, g.ts⟩ (hF G.1) ⟨callB_of (ws' := TB) As.length g.ts (goodIn_tb hwd) rfl rfl rfl (g.ts _ hY.2.2.1) (g.ts _ hlk) ⟨hY.2.2.2.1.1, hY.2.2.2.1.2, har⟩ (room_ok g hY hn), g.ts _ hin⟩ hpre rfl (by simp) (by rw [hls, g.ml]) hstk hroom d ⟨g.rc, g.rs⟩
  · exact va_runSN ⟨g.x, g.b, g.ml, g.own, g.ts⟩ (hF G.1) ⟨va_cnB (ws' := TB) As.length g.ts (goodIn_tb hwd) rfl rfl rfl (g.nb _ hlk) (g.ts _ hY.2.2.1) ⟨hY.2.2.2.1.1, hY.2.2.2.1.2, har⟩ (room_ok g hY hn), g.ts _ hin, trivial⟩ hpre rfl (by simp) (by rw [hls, g.ml]) hstk hroom d ⟨g.rc, g.rs⟩
/-- System.arraycopy of ints between two places -/
theorem e_copy {i k0 k1 t0 t1 N0 N1 : Nat} {l0 l1 : List Nat} {sp dp z : Int32} (g : Good G X n) (hn : 1 ≤ n) (hlk : Cond.methodLink X.1.cls i arraycopyName ∈ TB) (hnat : Cond.native arraycopyName ∈ TB) (hstat : Cond.static arraycopyName ∈ TB) (hini : Cond.initialized "java/lang/System" ∈ TB) (h0 : shp k0 = (1, t0, N0, l0)) (h1 : shp k1 = (1, t1, N1, l1))
    (hsp : ¬ sp < 0) (hdp : ¬ dp < 0) (hz : ¬ z < 0) (hs : sp.toNatClampNeg + z.toNatClampNeg ≤ N0) (hd : dp.toNatClampNeg + z.toNatClampNeg ≤ N1) (hW : (S.map fun v => v.category).sum ≤ 8) (d : decode X.2.1 pc = .ok (.invokestatic i, 3))
    (kk : Ev G (pc + 3) L S (uc M k1 (va_cpy (M.1 k0) (M.1 k1) sp.toNatClampNeg dp.toNatClampNeg z.toNatClampNeg))) : Ev G pc L (.int z :: .int dp :: .ref k1 :: .int sp :: .ref k0 :: S) M := by
  intro H locs ls hP hS hl
  have he0 := wl_at (gad G) (gcA G) M (shp_lt h0 (by simp))
  have he1 := wl_at (gad G) (gcA G) M (shp_lt h1 (by simp))
  rw [ce_int h0] at he0
  rw [ce_int h1] at he1
  have hR1 := g.rf
  have hR2 := g.rl
  refine va_copyi g.x g.b (by rw [hl.1]) g.own (g.ts _ hlk) (g.ts _ hnat) (g.ts _ hstat) (g.ts _ hini) g.K hP (g.D M) hS k0 k1 0 0 he0 he1 rfl rfl rfl hsp hdp hz hs hd (fun _ _ => rfl) (Nat.le_trans hn hR1) ?_ d (fun H1 locs1 hP1 _ hS1 => kk H1 locs1 ls ?_ hS1 hl)
  · rw [cat_sum]
    have e9 : nativeFrameWords "java/lang/System" "arraycopy" 5 ≤ 40 := by decide +kernel
    omega
  · rw [wl_set (M := M) (k := k1) (M' := uc M k1 (va_cpy (M.1 k0) (M.1 k1) sp.toNatClampNeg dp.toNatClampNeg z.toNatClampNeg)) (gad G) (gcA G) ?_ (fun a h => by funext b; simp [uc, h]) (fun _ _ => rfl)] at hP1
    · exact hP1
    · rw [ce_int h1]
      congr 4
      funext b
      simp [uc]
end CA

/-! ===== the frame of every contract: a world of cells, its class tables, the nest's words ===== -/
abbrev tys0 (cI cJ cS : ClassId) : List (ClassId × FieldType) := [(cI, .int), (cJ, .long), (cS, .object "TurnQueue$Sheet")]
/-- the words of access between nest mates that the program uses -/
def NW (U : State) : Prop :=
  va_Nw (.methodLinkNest RX8 11 yX3_init RX8) U ∧ va_Nw (.methodLinkNest RX8 20 yX1_init RX8) U ∧ va_Nw (.methodLinkNest RX8 27 yX0_init RX8) U ∧
  va_Nw (.methodLinkNest RX8 34 yX5_init RX8) U ∧ va_Nw (.methodLinkNest RX8 41 yX4_init RX8) U ∧ va_Nw (.methodLinkNest RX8 59 yX6_init RX8) U ∧
  va_Nw (.methodLinkNest RX0 11 yX1_init RX8) U ∧ va_Nw (.methodLinkNest RX0 20 yX3_init RX8) U ∧ va_Nw (.methodLinkNest RX0 65 yX8_hasPerson RX8) U ∧
  va_Nw (.methodLinkNest RX1 11 yX2_init RX8) U ∧ va_Nw (.methodLinkNest RX1 59 yX8_hasMinute RX8) U ∧ va_Nw (.methodLinkNest RX1 98 yX8_hasPerson RX8) U ∧
  va_Nw (.methodLinkNest RX5 11 yX1_init RX8) U ∧ va_Nw (.methodLinkNest RX5 20 yX3_init RX8) U ∧ va_Nw (.methodLinkNest RX5 57 yX8_hasMinute RX8) U ∧
  va_Nw (.methodLinkNest RX5 65 yX8_isMinute RX8) U ∧ va_Nw (.fieldLinkNest RX8 225 RX6 "lane" "I" RX8) U ∧ va_Nw (.fieldLinkNest RX8 228 RX6 "cells" "[I" RX8) U ∧
  va_Nw (.fieldLinkNest RX1 115 RX2 "row" "[I" RX8) U
theorem NW.warm {s U : State} (hW : s.WarmedH U.vm) (h : NW s) : NW U := by
  obtain ⟨h1, h2, h3, h4, h5, h6, h7, h8, h9, h10, h11, h12, h13, h14, h15, h16, h17, h18, h19⟩ := h
  exact ⟨h1.warmM hW, h2.warmM hW, h3.warmM hW, h4.warmM hW, h5.warmM hW, h6.warmM hW, h7.warmM hW, h8.warmM hW, h9.warmM hW, h10.warmM hW, h11.warmM hW, h12.warmM hW, h13.warmM hW, h14.warmM hW, h15.warmM hW, h16.warmM hW, h17.warmF hW, h18.warmF hW, h19.warmF hW⟩
theorem NW.same {s U : State} (hW : s.vm = U.vm) (h : NW s) : NW U := by
  obtain ⟨h1, h2, h3, h4, h5, h6, h7, h8, h9, h10, h11, h12, h13, h14, h15, h16, h17, h18, h19⟩ := h
  exact ⟨h1.same rfl hW, h2.same rfl hW, h3.same rfl hW, h4.same rfl hW, h5.same rfl hW, h6.same rfl hW, h7.same rfl hW, h8.same rfl hW, h9.same rfl hW, h10.same rfl hW, h11.same rfl hW, h12.same rfl hW, h13.same rfl hW, h14.same rfl hW, h15.same rfl hW, h16.same rfl hW, h17.same rfl hW, h18.same rfl hW, h19.same rfl hW⟩
def WK (D : va_G) (cI cJ cS : ClassId) (U : State) : Prop := va_K D vwCl (tys0 cI cJ cS) U ∧ NW U
theorem WK.warm {D : va_G} {cI cJ cS : ClassId} {s U : State} (hW : s.WarmedH U.vm) (h : WK D cI cJ cS s) : WK D cI cJ cS U := ⟨va_K.moved hW.alike h.1, h.2.warm hW⟩
/-- a contract's start: the cells ws, and nothing else -/
def CP (D : va_G) (cI cJ cS : ClassId) (ws : va_W) (sz : Nat) (av : List Value) : Array Value → State → Prop :=
  va_Pc av (fun U => U.heap.size = sz ∧ va_P D vwCl ws U.heap ∧ WK D cI cJ cS U ∧ va_D (fun _ => True) ws)
def CQi (D : va_G) (ws' : va_W) (A : Nat → Prop) (r0 : Int32) : Array Value → State → Outcome → State → Prop :=
  va_Qi (fun (r : Int32) (_ : Unit) => r = r0) (fun _ t => va_P D vwCl ws' t.heap ∧ va_D A ws') A
def CQl (D : va_G) (ws' : va_W) (A : Nat → Prop) (r0 : Int64) : Array Value → State → Outcome → State → Prop :=
  va_Ql (fun (r : Int64) (_ : Unit) => r = r0) (fun _ t => va_P D vwCl ws' t.heap ∧ va_D A ws') A
def CQv (D : va_G) (ws' : va_W) (A : Nat → Prop) : Array Value → State → Outcome → State → Prop :=
  va_Qv (fun (_ : Unit) => True) (fun _ t => va_P D vwCl ws' t.heap ∧ va_D A ws') A
def Ci (l : Launch) (y : MethodName) (wm : List Cond) (rm : Room) (D : va_G) (cI cJ cS : ClassId) (av : List Value) (ws ws' : va_W) (r0 : Int32) : Prop :=
  ∀ sz : Nat, Met l y wm rm (CP D cI cJ cS ws sz av) (CQi D ws' (va_A ws sz) r0) 0 0 (va_A ws sz)
def Cl (l : Launch) (y : MethodName) (wm : List Cond) (rm : Room) (D : va_G) (cI cJ cS : ClassId) (av : List Value) (ws ws' : va_W) (r0 : Int64) : Prop :=
  ∀ sz : Nat, Met l y wm rm (CP D cI cJ cS ws sz av) (CQl D ws' (va_A ws sz) r0) 0 0 (va_A ws sz)
def Cv (l : Launch) (y : MethodName) (wm : List Cond) (rm : Room) (D : va_G) (cI cJ cS : ClassId) (av : List Value) (ws ws' : va_W) : Prop :=
  ∀ sz : Nat, Met l y wm rm (CP D cI cJ cS ws sz av) (CQv D ws' (va_A ws sz)) 0 0 (va_A ws sz)
theorem CP.blind {D : va_G} {cI cJ cS : ClassId} {ws : va_W} {sz : Nat} {av : List Value} : FrameBlind (CP D cI cJ cS ws sz av) :=
  fun a U g mk q => by
    obtain ⟨q0, q1, qP, qK, qD⟩ := q
    exact ⟨q0, q1, qP, ⟨va_K.moved (u := U) (U := U.calling g mk a) (Vm.Alike.refl U.vm) qK.1, qK.2.same rfl⟩, qD⟩
/-- what stands at a method's first instruction -/
def Ent (p : Program) (s : State) (m : MethodId) (args : Array Value) (meth : Method) (c : Code) (y : MethodName) (wm : List Cond) (cc : ByteArray) (maxL : Nat) (ret : Option FieldType) (D : va_G) (cI cJ cS : ClassId) (av : List Value) (ws : va_W) (A : Nat → Prop) (ls : Array Slot) : Prop :=
  p.tables.exec = Jvm.exec ∧ c.code = cc ∧ meth.sig.returnType = ret ∧ c.maxLocals = maxL ∧ s.vm.findClass y.cls = some m.cls ∧ (∀ w ∈ wm, w.before args s = true) ∧ meth.locks = false ∧ WK D cI cJ cS s ∧ (∀ q : Nat, s.heap.size ≤ q → A q) ∧ va_P D vwCl ws s.heap ∧ va_D A ws ∧ va_S A s.heap s.heap [] ∧ lv_has ls maxL (lv_args 0 av)
theorem ent_of {l : Launch} {y : MethodName} {wm wm' : List Cond} {rm : Room} {cc : ByteArray} {maxL : Nat} {ret : Option FieldType} {D : va_G} {cI cJ cS : ClassId} {av : List Value} {ws : va_W} {sz : Nat} {Qc : (Nat → Prop) → Array Value → State → Outcome → State → Prop}
    (hy : plainName y.cls = true) (hw : wm = Cond.code y cc maxL ret :: wm') (hlen : (lg_sl av).length ≤ maxL)
    (body : ∀ p e s m args below meth c A ls, Ent p s m args meth c y wm cc maxL ret D cI cJ cS av ws A ls → W p l e (headSpec wm rm).room s m args below meth c s.heap [] 0 0 (MQ below (Qc A) args s 0 0 A) (F0 m 0 ls [])) :
    Met l y wm rm (CP D cI cJ cS ws sz av) (Qc (va_A ws sz)) 0 0 (va_A ws sz) := by
  refine Met.ofW (cc := cc) (maxL := maxL) (ret := ret) hy hw ?_
  intro p e s m args below meth c s₁ B hml hv
  obtain ⟨rfl, hsz, hP, hK, hD0⟩ := hv
  subst hsz
  have hl := lv_entry av (n := maxL) hlen
  rw [lg_entry_eq]
  exact body p e s m _ below meth c _ _ ⟨B.exec, B.bytes, B.returns, hml, findClass_of_methodNamed B.named, atoms_spec (ws := wm) B.pre, B.notSynchronized, hK, fun q h => Or.inr h, hP, hD0.self, va_S.rf, hl⟩
theorem Ci.of {l : Launch} {y : MethodName} {wm wm' : List Cond} {rm : Room} {cc : ByteArray} {maxL : Nat} {ret : Option FieldType} {D : va_G} {cI cJ cS : ClassId} {av : List Value} {ws ws' : va_W} {r0 : Int32}
    (hy : plainName y.cls = true) (hw : wm = Cond.code y cc maxL ret :: wm') (hlen : (lg_sl av).length ≤ maxL)
    (body : ∀ p e s m args below meth c A ls, Ent p s m args meth c y wm cc maxL ret D cI cJ cS av ws A ls → W p l e (headSpec wm rm).room s m args below meth c s.heap [] 0 0 (MQ below (CQi D ws' A r0) args s 0 0 A) (F0 m 0 ls [])) :
    Ci l y wm rm D cI cJ cS av ws ws' r0 := fun sz => ent_of (Qc := fun A => CQi D ws' A r0) hy hw hlen body
theorem Cl.of {l : Launch} {y : MethodName} {wm wm' : List Cond} {rm : Room} {cc : ByteArray} {maxL : Nat} {ret : Option FieldType} {D : va_G} {cI cJ cS : ClassId} {av : List Value} {ws ws' : va_W} {r0 : Int64}
    (hy : plainName y.cls = true) (hw : wm = Cond.code y cc maxL ret :: wm') (hlen : (lg_sl av).length ≤ maxL)
    (body : ∀ p e s m args below meth c A ls, Ent p s m args meth c y wm cc maxL ret D cI cJ cS av ws A ls → W p l e (headSpec wm rm).room s m args below meth c s.heap [] 0 0 (MQ below (CQl D ws' A r0) args s 0 0 A) (F0 m 0 ls [])) :
    Cl l y wm rm D cI cJ cS av ws ws' r0 := fun sz => ent_of (Qc := fun A => CQl D ws' A r0) hy hw hlen body
theorem Cv.of {l : Launch} {y : MethodName} {wm wm' : List Cond} {rm : Room} {cc : ByteArray} {maxL : Nat} {ret : Option FieldType} {D : va_G} {cI cJ cS : ClassId} {av : List Value} {ws ws' : va_W}
    (hy : plainName y.cls = true) (hw : wm = Cond.code y cc maxL ret :: wm') (hlen : (lg_sl av).length ≤ maxL)
    (body : ∀ p e s m args below meth c A ls, Ent p s m args meth c y wm cc maxL ret D cI cJ cS av ws A ls → W p l e (headSpec wm rm).room s m args below meth c s.heap [] 0 0 (MQ below (CQv D ws' A) args s 0 0 A) (F0 m 0 ls [])) :
    Cv l y wm rm D cI cJ cS av ws ws' := fun sz => ent_of (Qc := fun A => CQv D ws' A) hy hw hlen body
section
variable {p : Program} {l : Launch} {e : Env} {R : Room} {s : State} {m : MethodId} {args : Array Value} {below : List Frame} {meth : Method} {c : Code} {H H0 : Heap} {locs : List Loc} {cells slots : Nat} {Q : State → Prop} {pc : Nat} {ls : Array Slot} {cc : ByteArray} {D : va_G} {cI cJ cS : ClassId} {A : Nat → Prop} {ws wc wc' ws2 : va_W} {st0 rest : List Value} {a : Array Value}
theorem rt_i {r0 : Int32} (hx : p.tables.exec = Jvm.exec) (hb : c.code = cc) (hr : meth.sig.returnType = some .int) (hlocks : meth.locks = false) (hP : va_P D vwCl ws H) (hD : va_D A ws) (hS : va_S A s.heap H locs) (hdg : decode cc pc = .ok (.ireturn, 1)) :
    W p l e R s m args below meth c H locs 0 0 (MQ below (CQi D ws A r0) args s 0 0 A) (F0 m pc ls [.int r0]) :=
  W.iret (v := r0) hx hb hr (fun t ht hW => ⟨⟨r0, (), rfl, rfl, by rw [ht]; exact hP, hD⟩, hS.F ht⟩) hS.2.2 hdg hlocks
theorem rt_z {r0 : Int32} (hx : p.tables.exec = Jvm.exec) (hb : c.code = cc) (hr : meth.sig.returnType = some .boolean) (hlocks : meth.locks = false) (hP : va_P D vwCl ws H) (hD : va_D A ws) (hS : va_S A s.heap H locs) (hz : narrow .boolean (.int r0) = .int r0) (hdg : decode cc pc = .ok (.ireturn, 1)) :
    W p l e R s m args below meth c H locs 0 0 (MQ below (CQi D ws A r0) args s 0 0 A) (F0 m pc ls [.int r0]) :=
  W.zret (v := r0) hx hb hr hz (fun t ht hW => ⟨⟨r0, (), rfl, rfl, by rw [ht]; exact hP, hD⟩, hS.F ht⟩) hS.2.2 hdg hlocks
theorem rt_l {r0 : Int64} (hx : p.tables.exec = Jvm.exec) (hb : c.code = cc) (hr : meth.sig.returnType = some .long) (hlocks : meth.locks = false) (hP : va_P D vwCl ws H) (hD : va_D A ws) (hS : va_S A s.heap H locs) (hdg : decode cc pc = .ok (.lreturn, 1)) :
    W p l e R s m args below meth c H locs 0 0 (MQ below (CQl D ws A r0) args s 0 0 A) (F0 m pc ls [.long r0]) :=
  W.lret (v := r0) hx hb hr (fun t ht hW => ⟨⟨r0, (), rfl, rfl, by rw [ht]; exact hP, hD⟩, hS.F ht⟩) hS.2.2 hdg hlocks
theorem rt_v (hx : p.tables.exec = Jvm.exec) (hb : c.code = cc) (hr : meth.sig.returnType = none) (hlocks : meth.locks = false) (hP : va_P D vwCl ws H) (hD : va_D A ws) (hS : va_S A s.heap H locs) (hdg : decode cc pc = .ok (.return_, 1)) :
    W p l e R s m args below meth c H locs 0 0 (MQ below (CQv D ws A) args s 0 0 A) (F0 m pc ls []) :=
  W.vret hx hb hr (fun t ht hW => ⟨⟨(), rfl, trivial, by rw [ht]; exact hP, hD⟩, hS.F ht⟩) hS.2.2 hdg hlocks
theorem pre_S {As : List Value} (hK : WK D cI cJ cS s) (hP : va_P D vwCl ws H) (hD : va_D A ws) (isC : List Nat) (hn : va_nd isC = true) (hC : isC.map (fun i => ws[i]?) = wc.map some) : PreS s H (CP D cI cJ cS wc H.size As) As := by
  have hPc : va_P D vwCl wc H := by
    refine hP.sub isC ?_
    have h2 : isC.filterMap (fun i => ws[i]?) = (isC.map (fun i => ws[i]?)).filterMap id := by rw [List.filterMap_map]; rfl
    rw [h2, hC, List.filterMap_map]
    exact List.filterMap_some
  refine ⟨CP.blind, fun U hU hW => ⟨rfl, by rw [hU], by rw [hU]; exact hPc, hK.warm hW, (hD.sub isC hn hC).weaken (fun _ _ _ _ => trivial)⟩⟩
theorem pre_V {As : List Value} {b ci : Nat} {C : String} {T : u_T} {N : Nat} {fs : List Value} (hK : WK D cI cJ cS s) (hP : va_P D vwCl ws H) (hD : va_D A ws) (isC : List Nat) (hn : va_nd isC = true) (hC : isC.map (fun i => ws[i]?) = wc.map some) (hc : vwCl[ci]? = some (C, T, N)) (he : wc[0]? = some (b, .inr (ci, fs))) : PreV s H C b (CP D cI cJ cS wc H.size (.ref b :: As)) As := by
  have h := pre_S (As := .ref b :: As) hK hP hD isC hn hC
  have hPc : va_P D vwCl wc H := by
    refine hP.sub isC ?_
    have h2 : isC.filterMap (fun i => ws[i]?) = (isC.map (fun i => ws[i]?)).filterMap id := by rw [List.filterMap_map]; rfl
    rw [h2, hC, List.filterMap_map]
    exact List.filterMap_some
  exact ⟨h.1, va_recv hK.1 hPc hc he, h.2⟩
theorem back_w {H1 : Heap} (hP : va_P D vwCl ws H) (hD : va_D A ws) (hS : va_S A H0 H locs) (hA : ∀ q : Nat, H0.size ≤ q → A q) (isC isR is2 : List Nat) (hC : isC.map (fun i => ws[i]?) = wc.map some) (hR : isR.map (fun i => ws[i]?) = (isR.filterMap (fun i => ws[i]?)).map some) (hnR : va_nd isR = true) (hdis : ∀ i ∈ isR, i ∉ isC) (hn2 : va_nd is2 = true) (h2 : is2.map (fun i => (isR.filterMap (fun i => ws[i]?) ++ wc')[i]?) = ws2.map some)
    (hk1 : ∀ q : Nat, q < H.size → ¬ va_A wc H.size q → H1[q]? = H[q]?) (hP1 : va_P D vwCl wc' H1) (hD1 : va_D (va_A wc H.size) wc') : va_P D vwCl ws2 H1 ∧ va_D A ws2 := by
  have hFc := va_free (wc := wc) hD hS hA isC hC
  obtain ⟨hP2, hD2⟩ := va_join (wr := isR.filterMap (fun i => ws[i]?)) (w1 := wc') hP hD isC isR hC hR hnR hdis hk1 hFc hP1 hD1
  refine ⟨?_, hD2.sub is2 hn2 h2⟩
  refine hP2.sub is2 ?_
  have h3 : is2.filterMap (fun i => (isR.filterMap (fun i => ws[i]?) ++ wc')[i]?) = (is2.map (fun i => (isR.filterMap (fun i => ws[i]?) ++ wc')[i]?)).filterMap id := by rw [List.filterMap_map]; rfl
  rw [h3, h2, List.filterMap_map]
  exact List.filterMap_some
/-- behind a call that answers an int: the callee's cells are as its contract says, the rest as before -/
theorem af_i {r0 : Int32} (hr : va_Run p l e R s m args below meth c H locs cells slots 0 0 (F0 m pc ls st0) rest (CQi D wc' (va_A wc H.size) r0 a) (va_A wc H.size)) (hP : va_P D vwCl ws H) (hD : va_D A ws) (hS : va_S A H0 H locs) (hA : ∀ q : Nat, H0.size ≤ q → A q) (isC isR is2 : List Nat) (hC : isC.map (fun i => ws[i]?) = wc.map some) (hR : isR.map (fun i => ws[i]?) = (isR.filterMap (fun i => ws[i]?)).map some) (hnR : va_nd isR = true) (hdis : ∀ i ∈ isR, i ∉ isC) (hn2 : va_nd is2 = true) (h2 : is2.map (fun i => (isR.filterMap (fun i => ws[i]?) ++ wc')[i]?) = ws2.map some)
    (kk : ∀ (H1 : Heap) (locs1 : List Loc), va_P D vwCl ws2 H1 → va_D A ws2 → va_S A H0 H1 locs1 → W p l e R s m args below meth c H1 locs1 cells slots Q (F0 m (pc + 3) ls (.int r0 :: rest))) : W p l e R s m args below meth c H locs cells slots Q (F0 m pc ls st0) := by
  have hFc := va_free (wc := wc) hD hS hA isC hC
  refine va_calli hr hS (fun q _ h => hFc q h) hFc (fun r u t H1 locs1 ht hvm hw hB hz1 hk1 hS1 => ?_)
  obtain ⟨hP1, hD1⟩ := hB
  rw [ht] at hP1
  obtain ⟨hP2, hD2⟩ := back_w hP hD hS hA isC isR is2 hC hR hnR hdis hn2 h2 hk1 hP1 hD1
  subst hw
  exact kk H1 locs1 hP2 hD2 hS1
theorem af_l {r0 : Int64} (hr : va_Run p l e R s m args below meth c H locs cells slots 0 0 (F0 m pc ls st0) rest (CQl D wc' (va_A wc H.size) r0 a) (va_A wc H.size)) (hP : va_P D vwCl ws H) (hD : va_D A ws) (hS : va_S A H0 H locs) (hA : ∀ q : Nat, H0.size ≤ q → A q) (isC isR is2 : List Nat) (hC : isC.map (fun i => ws[i]?) = wc.map some) (hR : isR.map (fun i => ws[i]?) = (isR.filterMap (fun i => ws[i]?)).map some) (hnR : va_nd isR = true) (hdis : ∀ i ∈ isR, i ∉ isC) (hn2 : va_nd is2 = true) (h2 : is2.map (fun i => (isR.filterMap (fun i => ws[i]?) ++ wc')[i]?) = ws2.map some)
    (kk : ∀ (H1 : Heap) (locs1 : List Loc), va_P D vwCl ws2 H1 → va_D A ws2 → va_S A H0 H1 locs1 → W p l e R s m args below meth c H1 locs1 cells slots Q (F0 m (pc + 3) ls (.long r0 :: rest))) : W p l e R s m args below meth c H locs cells slots Q (F0 m pc ls st0) := by
  have hFc := va_free (wc := wc) hD hS hA isC hC
  refine va_calll hr hS (fun q _ h => hFc q h) hFc (fun r u t H1 locs1 ht hvm hw hB hz1 hk1 hS1 => ?_)
  obtain ⟨hP1, hD1⟩ := hB
  rw [ht] at hP1
  obtain ⟨hP2, hD2⟩ := back_w hP hD hS hA isC isR is2 hC hR hnR hdis hn2 h2 hk1 hP1 hD1
  subst hw
  exact kk H1 locs1 hP2 hD2 hS1
theorem af_v (hr : va_Run p l e R s m args below meth c H locs cells slots 0 0 (F0 m pc ls st0) rest (CQv D wc' (va_A wc H.size) a) (va_A wc H.size)) (hP : va_P D vwCl ws H) (hD : va_D A ws) (hS : va_S A H0 H locs) (hA : ∀ q : Nat, H0.size ≤ q → A q) (isC isR is2 : List Nat) (hC : isC.map (fun i => ws[i]?) = wc.map some) (hR : isR.map (fun i => ws[i]?) = (isR.filterMap (fun i => ws[i]?)).map some) (hnR : va_nd isR = true) (hdis : ∀ i ∈ isR, i ∉ isC) (hn2 : va_nd is2 = true) (h2 : is2.map (fun i => (isR.filterMap (fun i => ws[i]?) ++ wc')[i]?) = ws2.map some)
    (kk : ∀ (H1 : Heap) (locs1 : List Loc), va_P D vwCl ws2 H1 → va_D A ws2 → va_S A H0 H1 locs1 → W p l e R s m args below meth c H1 locs1 cells slots Q (F0 m (pc + 3) ls rest)) : W p l e R s m args below meth c H locs cells slots Q (F0 m pc ls st0) := by
  have hFc := va_free (wc := wc) hD hS hA isC hC
  refine va_callv hr hS (fun q _ h => hFc q h) hFc (fun u t H1 locs1 ht hvm hw hB hz1 hk1 hS1 => ?_)
  obtain ⟨hP1, hD1⟩ := hB
  rw [ht] at hP1
  obtain ⟨hP2, hD2⟩ := back_w hP hD hS hA isC isR is2 hC hR hnR hdis hn2 h2 hk1 hP1 hD1
  exact kk H1 locs1 hP2 hD2 hS1
end
/-! ===== programs as functions: a step function, and what it comes to ===== -/
/-- is an index inside a row of n -/
def ck (i : Int32) (n : Nat) : Bool := !(decide (i < 0) || decide (n ≤ i.toNatClampNeg))
theorem ck_in {i : Int32} {n : Nat} (h : ck i n = true) : vp_in i n := by
  intro hh
  unfold ck at h
  rcases hh with q | q
  · rw [decide_eq_true q] at h; simp at h
  · rw [decide_eq_true q, Bool.or_true] at h; simp at h
theorem ck_lt {i : Int32} {n : Nat} (h : vp_in i n) : i.toNatClampNeg < n := Nat.not_le.mp fun q => h (Or.inr q)
theorem ck_of {i : Int32} {n : Nat} (h : vp_in i n) : ck i n = true := by
  unfold ck
  rw [decide_eq_false (fun q => h (Or.inl q)), decide_eq_false (fun q => h (Or.inr q))]
  rfl
theorem nz {v : Int32} (h : v &&& 1 = v) : narrow .boolean (.int v) = .int v := by
  show Value.int (v &&& 1) = Value.int v
  rw [h]
theorem o_if {α : Type} {c : Prop} [Decidable c] {x y : Option α} {o : α} (h : (if c then x else y) = some o) : (c → x = some o) ∧ (¬ c → y = some o) :=
  ⟨fun q => by rw [if_pos q] at h; exact h, fun q => by rw [if_neg q] at h; exact h⟩
theorem o_ck {α : Type} {i : Int32} {n : Nat} {x : Option α} {o : α} (h : (if ck i n = true then x else none) = some o) : vp_in i n ∧ x = some o := by
  by_cases q : ck i n = true
  · rw [if_pos q] at h; exact ⟨ck_in q, h⟩
  · rw [if_neg q] at h; cases h
theorem o_gd {α : Type} {c : Prop} [Decidable c] {x : Option α} {o : α} (h : (if c then x else none) = some o) : c ∧ x = some o := by
  by_cases q : c
  · rw [if_pos q] at h; exact ⟨q, h⟩
  · rw [if_neg q] at h; cases h
theorem o_bd {α β : Type} {f : Option α} {k : α → Option β} {o : β} (h : f.bind k = some o) : ∃ a, f = some a ∧ k a = some o := Option.bind_eq_some_iff.mp h
theorem o_let {α β : Type} {x : α} {k : α → Option β} {o : β} (h : k x = some o) : ∀ y, y = x → k y = some o := fun _ e => e ▸ h
def lt {α β : Type} (x : α) (k : α → β) : β := k x
theorem o_lt {α β : Type} {x : α} {k : α → Option β} {o : β} (h : lt x k = some o) : ∀ y, y = x → k y = some o := fun _ e => e ▸ h
def sg {σ ρ : Type} (k : σ → Option ρ) : σ ⊕ ρ → Option ρ := fun r => match r with
  | .inl y => k y
  | .inr o => some o
theorem s_if {α β : Type} {c : Prop} [Decidable c] {x y : Option α} {g : α → Option β} {o : β} (h : (if c then x else y).bind g = some o) : (c → x.bind g = some o) ∧ (¬ c → y.bind g = some o) :=
  ⟨fun q => by rw [if_pos q] at h; exact h, fun q => by rw [if_neg q] at h; exact h⟩
theorem s_ck {α β : Type} {i : Int32} {n : Nat} {x : Option α} {g : α → Option β} {o : β} (h : (if ck i n = true then x else none).bind g = some o) : vp_in i n ∧ x.bind g = some o := by
  by_cases q : ck i n = true
  · rw [if_pos q] at h; exact ⟨ck_in q, h⟩
  · rw [if_neg q] at h; cases h
theorem s_gd {α β : Type} {c : Prop} [Decidable c] {x : Option α} {g : α → Option β} {o : β} (h : (if c then x else none).bind g = some o) : c ∧ x.bind g = some o := by
  by_cases q : c
  · rw [if_pos q] at h; exact ⟨q, h⟩
  · rw [if_neg q] at h; cases h
theorem s_bd {α β γ : Type} {f : Option α} {k : α → Option β} {g : β → Option γ} {o : γ} (h : (f.bind k).bind g = some o) : ∃ a, f = some a ∧ (k a).bind g = some o := by
  rw [Option.bind_assoc] at h
  exact o_bd h
theorem s_lt {α β γ : Type} {x : α} {k : α → Option β} {g : β → Option γ} {o : γ} (h : (lt x k).bind g = some o) : ∀ y, y = x → (k y).bind g = some o := fun _ e => e ▸ h
theorem s_rt {σ ρ : Type} {v o : ρ} {k : σ → Option ρ} (h : (some (Sum.inr v : σ ⊕ ρ)).bind (sg k) = some o) : some v = some o := h
theorem s_jp {σ ρ : Type} {x : σ} {o : ρ} {k : σ → Option ρ} (h : (some (Sum.inl x : σ ⊕ ρ)).bind (sg k) = some o) : k x = some o := h
def ex {σ ρ : Type} (f : Option ρ) : Option (σ ⊕ ρ) := f.bind fun v => some (Sum.inr v)
theorem s_ex {σ ρ : Type} {f : Option ρ} {o : ρ} {k : σ → Option ρ} (h : (ex f).bind (sg k) = some o) : f = some o := by
  cases f with
  | none => cases h
  | some v => exact h
def itr {σ ρ : Type} (f : σ → Option (σ ⊕ ρ)) : Nat → σ → Option ρ
  | 0, _ => none
  | n + 1, x => (f x).bind (sg (itr f n))
theorem itr_0 {σ ρ : Type} {f : σ → Option (σ ⊕ ρ)} {x : σ} {o : ρ} (h : itr f 0 x = some o) : False := by cases h
theorem itr_s {σ ρ : Type} {f : σ → Option (σ ⊕ ρ)} {n : Nat} {x : σ} {o : ρ} (h : itr f (n + 1) x = some o) : (f x).bind (sg (itr f n)) = some o := h
theorem itr_up {σ ρ : Type} {f : σ → Option (σ ⊕ ρ)} : ∀ (n : Nat) (x : σ) (o : ρ), itr f n x = some o → itr f (n + 1) x = some o
  | 0, x, o, h => by cases h
  | n + 1, x, o, h => by
    obtain ⟨r, h1, h2⟩ := o_bd (itr_s h)
    show (f x).bind (sg (itr f (n + 1))) = some o
    rw [h1]
    cases r with
    | inl y => exact itr_up n y o h2
    | inr v => exact h2
theorem itr_le {σ ρ : Type} {f : σ → Option (σ ⊕ ρ)} {n k : Nat} {x : σ} {o : ρ} (h : itr f n x = some o) (hk : n ≤ k) : itr f k x = some o := by
  induction k with
  | zero => have e : n = 0 := by omega
            subst e; exact h
  | succ k ih =>
    rcases Nat.lt_or_ge k n with q | q
    · have e : n = k + 1 := by omega
      subst e; exact h
    · exact itr_up k x o (ih q)
/-- what the steps come to, if they come to an end -/
noncomputable def fin {σ ρ : Type} (f : σ → Option (σ ⊕ ρ)) (x : σ) : Option ρ :=
  @dite _ (∃ n o, itr f n x = some o) (Classical.propDecidable _) (fun h => some h.choose_spec.choose) (fun _ => none)
theorem fin_of {σ ρ : Type} {f : σ → Option (σ ⊕ ρ)} {n : Nat} {x : σ} {o : ρ} (h : itr f n x = some o) : fin f x = some o := by
  have he : ∃ n o, itr f n x = some o := ⟨n, o, h⟩
  unfold fin
  rw [dif_pos he]
  have h1 := he.choose_spec.choose_spec
  have h2 := itr_le h1 (Nat.le_max_left he.choose n)
  have h3 := itr_le h (Nat.le_max_right he.choose n)
  exact h2.symm.trans h3
theorem fin_some {σ ρ : Type} {f : σ → Option (σ ⊕ ρ)} {x : σ} {o : ρ} (h : fin f x = some o) : ∃ n, itr f n x = some o := by
  unfold fin at h
  by_cases he : ∃ n o, itr f n x = some o
  · rw [dif_pos he] at h
    have h1 := he.choose_spec.choose_spec
    exact ⟨he.choose, h1.trans h⟩
  · rw [dif_neg he] at h; cases h
theorem fin_eq {σ ρ : Type} (f : σ → Option (σ ⊕ ρ)) (x : σ) : fin f x = (f x).bind (sg (fin f)) := by
  cases hr : (f x).bind (sg (fin f)) with
  | some o =>
    obtain ⟨r, h1, h2⟩ := o_bd hr
    cases r with
    | inl y =>
      obtain ⟨n, hn⟩ := fin_some h2
      exact fin_of (n := n + 1) (by show (f x).bind (sg (itr f n)) = some o; rw [h1]; exact hn)
    | inr v => exact fin_of (n := 1) (by show (f x).bind (sg (itr f 0)) = some o; rw [h1]; exact h2)
  | none =>
    cases hx : fin f x with
    | none => rfl
    | some o =>
      obtain ⟨n, hn⟩ := fin_some hx
      cases n with
      | zero => cases hn
      | succ n =>
        obtain ⟨r, h1, h2⟩ := o_bd (itr_s hn)
        rw [h1] at hr
        cases r with
        | inl y => have h3 := fin_of (f := f) h2; exact absurd (h3.symm.trans hr) (by simp)
        | inr v => cases hr
theorem pu_if {α β : Type} {c : Prop} [Decidable c] {x y : Option α} {g : α → Option β} : (if c then x else y).bind g = if c then x.bind g else y.bind g := by
  by_cases q : c
  · rw [if_pos q, if_pos q]
  · rw [if_neg q, if_neg q]
theorem pu_lt {α β γ : Type} {x : α} {k : α → Option β} {g : β → Option γ} : (lt x k).bind g = lt x (fun y => (k y).bind g) := rfl
theorem pu_bd {α β γ : Type} {f : Option α} {k : α → Option β} {g : β → Option γ} : (f.bind k).bind g = f.bind (fun a => (k a).bind g) := Option.bind_assoc ..
theorem pu_jp {σ ρ : Type} {x : σ} {k : σ → Option ρ} : (some (Sum.inl x : σ ⊕ ρ)).bind (sg k) = k x := rfl
theorem pu_rt {σ ρ : Type} {v : ρ} {k : σ → Option ρ} : (some (Sum.inr v : σ ⊕ ρ)).bind (sg k) = some v := rfl
theorem pu_no {α β : Type} {g : α → Option β} : (none : Option α).bind g = none := rfl
theorem pu_ex {σ ρ : Type} {f : Option ρ} {k : σ → Option ρ} : (ex f : Option (σ ⊕ ρ)).bind (sg k) = f := by
  cases f with
  | none => rfl
  | some v => rfl
/-! ===== cells, shortly ===== -/
abbrev ar (cI : ClassId) (n : Nat) (f : Nat → Int32) : va_E := .inl (cI, n, .inl f)
abbrev arL (cJ : ClassId) (n : Nat) (f : Nat → Int64) : va_E := .inl (cJ, n, .inr (.inl f))
abbrev arS (cS : ClassId) (n : Nat) (f : Nat → Option Nat) : va_E := .inl (cS, n, .inr (.inr (.inr (.inr f))))
def a4 (q0 q1 q2 q3 : Nat) : Nat → Option Nat := fun j => match j with
  | 0 => some q0
  | 1 => some q1
  | 2 => some q2
  | _ => some q3

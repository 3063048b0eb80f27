/-! ===== constructors: a contract whose end names new cells ===== -/
def CPn (D : va_G) (cI cJ cS : ClassId) (ws : va_W) (sz : Nat) (av : List Value) : Array Value → State → Prop :=
  va_Pc av (fun U => U.heap.size = sz ∧ va_P D vwCl ws U.heap ∧ WK D cI cJ cS U ∧ va_D (fun _ => True) ws ∧ va_AO RX6 U)
def CQn (D : va_G) (Wf : va_W → Prop) (A : Nat → Prop) : Array Value → State → Outcome → State → Prop :=
  va_Qv (fun (_ : Unit) => True) (fun _ t => ∃ w, Wf w ∧ va_P D vwCl w t.heap ∧ va_D A w) A
def Cn (l : Launch) (y : MethodName) (wm : List Cond) (rm : Room) (D : va_G) (cI cJ cS : ClassId) (av : List Value) (ws : va_W) (Wf : va_W → Prop) (mc ms : Nat) : Prop :=
  ∀ sz : Nat, Met l y wm rm (CPn D cI cJ cS ws sz av) (CQn D Wf (va_A ws sz)) mc ms (va_A ws sz)
theorem CPn.blind {D : va_G} {cI cJ cS : ClassId} {ws : va_W} {sz : Nat} {av : List Value} : FrameBlind (CPn D cI cJ cS ws sz av) :=
  fun a U g mk q => by
    obtain ⟨q0, q1, qP, qK, qD, qO⟩ := q
    exact ⟨q0, q1, qP, ⟨va_K.moved (u := U) (U := U.calling g mk a) (Vm.Alike.refl U.vm) qK.1, qK.2.same rfl⟩, qD, va_AO.moved (u := U) (U := U.calling g mk a) (Vm.Alike.refl U.vm) qO⟩
def EntN (p : Program) (s : State) (m : MethodId) (args : Array Value) (meth : Method) (c : Code) (y : MethodName) (wm : List Cond) (cc : ByteArray) (maxL : Nat) (D : va_G) (cI cJ cS : ClassId) (av : List Value) (ws : va_W) (A : Nat → Prop) (ls : Array Slot) : Prop :=
  p.tables.exec = Jvm.exec ∧ c.code = cc ∧ meth.sig.returnType = none ∧ c.maxLocals = maxL ∧ s.vm.findClass y.cls = some m.cls ∧ (∀ w ∈ wm, w.before args s = true) ∧ meth.locks = false ∧ WK D cI cJ cS s ∧ (∀ q : Nat, s.heap.size ≤ q → A q) ∧ va_P D vwCl ws s.heap ∧ va_D A ws ∧ va_S A s.heap s.heap [] ∧ lv_has ls maxL (lv_args 0 av) ∧ meth.name = y.name ∧ va_AO RX6 s
theorem Cn.of {l : Launch} {y : MethodName} {wm wm' : List Cond} {rm : Room} {cc : ByteArray} {maxL : Nat} {D : va_G} {cI cJ cS : ClassId} {av : List Value} {ws : va_W} {Wf : va_W → Prop} {mc ms : Nat}
    (hy : plainName y.cls = true) (hw : wm = Cond.code y cc maxL none :: wm') (hlen : (lg_sl av).length ≤ maxL)
    (body : ∀ p e s m args below meth c A ls, EntN p s m args meth c y wm cc maxL D cI cJ cS av ws A ls → W p l e (headSpec wm rm).room s m args below meth c s.heap [] 0 0 (MQ below (CQn D Wf A) args s mc ms A) (F0 m 0 ls [])) :
    Cn l y wm rm D cI cJ cS av ws Wf mc ms := by
  intro sz
  refine Met.ofW (cc := cc) (maxL := maxL) (ret := none) hy hw ?_
  intro p e s m args below meth c s₁ B hml hv
  obtain ⟨rfl, hsz, hP, hK, hD0, hO⟩ := hv
  subst hsz
  have hl := lv_entry av (n := maxL) hlen
  rw [lg_entry_eq]
  exact body p e s m _ below meth c _ _ ⟨B.exec, B.bytes, B.returns, hml, findClass_of_methodNamed B.named, atoms_spec (ws := wm) B.pre, B.notSynchronized, hK, fun q h => Or.inr h, hP, hD0.self, va_S.rf, hl, (name_of_methodNamed B.named B.method).1, hO⟩
section
variable {p : Program} {l : Launch} {e : Env} {R : Room} {s : State} {m : MethodId} {args : Array Value} {below : List Frame} {meth : Method} {c : Code} {H H0 : Heap} {locs : List Loc} {cells slots : Nat} {Q : State → Prop} {pc : Nat} {ls : Array Slot} {cc : ByteArray} {D : va_G} {cI cJ cS : ClassId} {A : Nat → Prop} {ws wc : va_W} {st0 rest : List Value} {a : Array Value} {Wf : va_W → Prop} {mc ms : Nat}
theorem rt_n (hx : p.tables.exec = Jvm.exec) (hb : c.code = cc) (hr : meth.sig.returnType = none) (hlocks : meth.locks = false) (hP : va_P D vwCl ws H) (hD : va_D A ws) (hS : va_S A s.heap H locs) (hw : Wf ws) (hdg : decode cc pc = .ok (.return_, 1)) :
    W p l e R s m args below meth c H locs mc ms (MQ below (CQn D Wf A) args s mc ms A) (F0 m pc ls []) :=
  W.vret hx hb hr (fun t ht hW => ⟨⟨(), rfl, trivial, ws, hw, by rw [ht]; exact hP, hD⟩, hS.F ht⟩) hS.2.2 hdg hlocks
theorem pre_N {As : List Value} (hK : WK D cI cJ cS s) (hO : va_AO RX6 s) (hP : va_P D vwCl ws H) (hD : va_D A ws) (isC : List Nat) (hn : va_nd isC = true) (hC : isC.map (fun i => ws[i]?) = wc.map some) : PreS s H (CPn D cI cJ cS wc H.size As) As := by
  have hPc : va_P D vwCl wc H := by
    refine hP.sub isC ?_
    have h2 : isC.filterMap (fun i => ws[i]?) = (isC.map (fun i => ws[i]?)).filterMap id := by rw [List.filterMap_map]; rfl
    rw [h2, hC, List.filterMap_map]
    exact List.filterMap_some
  refine ⟨CPn.blind, fun U hU hW => ⟨rfl, by rw [hU], by rw [hU]; exact hPc, hK.warm hW, (hD.sub isC hn hC).weaken (fun _ _ _ _ => trivial), hO.moved hW.alike⟩⟩
/-- behind a constructor: its cells are as its contract says, the rest as before -/
theorem af_n {wr : va_W} (hr : va_Run p l e R s m args below meth c H locs cells slots mc ms (F0 m pc ls st0) rest (CQn D Wf (va_A wc H.size) a) (va_A wc H.size)) (hP : va_P D vwCl ws H) (hD : va_D A ws) (hS : va_S A H0 H locs) (hA : ∀ q : Nat, H0.size ≤ q → A q) (isC isR : List Nat) (hC : isC.map (fun i => ws[i]?) = wc.map some) (hR : isR.map (fun i => ws[i]?) = wr.map some) (hnR : va_nd isR = true) (hdis : ∀ i ∈ isR, i ∉ isC)
    (kk : ∀ (w : va_W) (H1 : Heap) (locs1 : List Loc), Wf w → va_P D vwCl (wr ++ w) H1 → va_D A (wr ++ w) → va_S A H0 H1 locs1 → W p l e R s m args below meth c H1 locs1 (cells + mc) (slots + ms) Q (F0 m (pc + 3) ls rest)) : W p l e R s m args below meth c H locs cells slots Q (F0 m pc ls st0) := by
  have hFc := va_free (wc := wc) hD hS hA isC hC
  refine va_callv hr hS (fun q _ h => hFc q h) hFc (fun u t H1 locs1 ht hvm hw hB hz1 hk1 hS1 => ?_)
  obtain ⟨w, hWf, hP1, hD1⟩ := hB
  rw [ht] at hP1
  obtain ⟨hP2, hD2⟩ := va_join (wr := wr) (w1 := w) hP hD isC isR hC hR hnR hdis hk1 hFc hP1 hD1
  exact kk w H1 locs1 hWf hP2 hD2 hS1
theorem kI {cA : ClassId} (h : va_K D vwCl (tys0 cI cJ cS ++ [(cA, .int)]) s) : cI = cA := by
  have h1 : s.vm.findClass ("[" ++ FieldType.int.toString) = some cI := (h.2 0 (cI, .int) rfl).2
  have h2 : s.vm.findClass ("[" ++ FieldType.int.toString) = some cA := (h.2 3 (cA, .int) rfl).2
  exact Option.some.inj (h1.symm.trans h2)
theorem kJ {cA : ClassId} (h : va_K D vwCl (tys0 cI cJ cS ++ [(cA, .long)]) s) : cJ = cA := by
  have h1 : s.vm.findClass ("[" ++ FieldType.long.toString) = some cJ := (h.2 1 (cJ, .long) rfl).2
  have h2 : s.vm.findClass ("[" ++ FieldType.long.toString) = some cA := (h.2 3 (cA, .long) rfl).2
  exact Option.some.inj (h1.symm.trans h2)
theorem kS {cA : ClassId} (h : va_K D vwCl (tys0 cI cJ cS ++ [(cA, .object RX6)]) s) : cS = cA := by
  obtain ⟨-, -, -, -, -, h1⟩ := (h.2 2 (cS, .object "TurnQueue$Sheet") rfl).2
  obtain ⟨-, -, -, -, -, h2⟩ := (h.2 3 (cA, .object RX6) rfl).2
  exact Option.some.inj (h1.symm.trans h2)
/-- a row of references is its first n -/
theorem arS_P {k : Nat} {q n : Nat} {f f' : Nat → Option Nat} (hP : va_P D vwCl ws H) (hk : ws[k]? = some (q, arS cS n f)) (h : ∀ j, j < n → f j = f' j) : va_P D vwCl (ws.set k (q, arS cS n f')) H := by
  intro i e he
  rw [List.getElem?_set] at he
  by_cases c : k = i
  · rw [if_pos c] at he
    by_cases c2 : k < ws.length
    · rw [if_pos (by omega)] at he
      cases he
      have h1 := hP k _ hk
      show H[q]? = some (vp_cell cS (n, .inr (.inr (.inr (.inr f')))))
      have h1 : H[q]? = some (vp_cell cS (n, .inr (.inr (.inr (.inr f))))) := h1
      rw [h1]
      congr 1
      show arrV cS n (fun j => va_rf (f j)) = arrV cS n (fun j => va_rf (f' j))
      unfold arrV
      congr 2
      funext j
      show va_rf (f j.val) = va_rf (f' j.val)
      rw [h j.val j.isLt]
    · rw [if_neg (by omega)] at he; cases he
  · rw [if_neg c] at he
    exact hP i e he
theorem arS_D {k : Nat} {q : Nat} {x y : va_E} (hD : va_D A ws) (hk : ws[k]? = some (q, x)) : va_D A (ws.set k (q, y)) := by
  have g : ∀ (i : Nat) (e : Nat × va_E), (ws.set k (q, y))[i]? = some e → ∃ e', ws[i]? = some e' ∧ e'.1 = e.1 := by
    intro i e he
    rw [List.getElem?_set] at he
    by_cases c : k = i
    · rw [if_pos c] at he
      by_cases c2 : i < ws.length
      · rw [if_pos (by omega)] at he
        cases he
        exact ⟨(q, x), by rw [← c]; exact hk, rfl⟩
      · rw [if_neg (by omega)] at he; cases he
    · rw [if_neg c] at he
      exact ⟨e, he, rfl⟩
  refine ⟨fun i j e1 e2 h1 h2 h3 => ?_, fun i e h1 => ?_⟩
  · obtain ⟨e1', a1, b1⟩ := g i e1 h1
    obtain ⟨e2', a2, b2⟩ := g j e2 h2
    exact hD.1 i j e1' e2' a1 a2 (by rw [b1, b2]; exact h3)
  · obtain ⟨e1', a1, b1⟩ := g i e h1
    rw [← b1]
    exact hD.2 i e1' a1
end

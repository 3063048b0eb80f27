/-! THE CLAIM OUT OF ONE WALK OF THE LAW'S BODY. Your part is whole_start (and what it stands on); all else here is the same for every law, but numbers. -/
def R_law : String := "TurnQueueLaw"
def lw_P (b : Addr) (xs : List Int32) (args : Array Value) (s : State) : Prop := args = #[.ref b] ∧ s.IntsAt b xs ∧ xs.length ≤ 3072 ∧ (Jvm.Cond.and given_1 narrow_1).before args s = true
def lw_Q (_ : Array Value) (s : State) (o : Outcome) (t : State) : Prop := o = .returned (some (.int 1)) ∧ Framed s o t [] 600000 7302250
def lw_Z (below : List Frame) (a : Array Value) (s : State) : State → Prop := fun t => ∃ o, t.status = .running ∧ Ended t below o ∧ lw_Q a s o t
/-- the law's own end, with 1 on the stack, nothing written that was there before, its room as the claim has it -/
theorem lw_ret {p : Program} {l : Launch} {e : Env} {s : State} {m : MethodId} {below : List Frame} {meth : Method} {c : Code} {b : Nat} (hx : p.tables.exec = Jvm.exec) (hb : c.code = code) (hr : meth.sig.returnType = ret) (hlocks : meth.locks = false) {pc : Nat} {H : Heap} {ls : Array Slot} (hdg : decode code pc = .ok (.ireturn, 1)) : W p l e room_1 s m #[Value.ref b] below meth c H [] 600000 7302250 (lw_Z below #[Value.ref b] s) (F0 m pc ls [.int 1]) := by
  intro T hT X
  obtain ⟨fs, hret, hrun, hended, hW, hframe⟩ := X.leave (v := some (.int 1)) (hlocks := hlocks) (fun h => by rw [hr] at h; cases h)
  have hmeth' : T.vm.method? m = some meth := X.method'
  refine ⟨T.setFrames fs, ?_, .returned (some (.int 1)), hrun, hended, rfl, ⟨_, rfl⟩, hW, hframe⟩
  jvm_step X.here [X.here.top, hx, hb, hdg, hmeth', hr, ret, narrow_b1]
  (try refine ⟨rfl, ?_⟩); (try refine ⟨rfl, ?_⟩)
  first | (intro acts; rw [hret _ acts rfl rfl rfl]) | rw [hret _ _ rfl rfl rfl]
  exact Steps.refl _
/-- what holds at the law's entry: the machine, the code, the tables' words (any of lw_tbl by 'hts w (by decide +kernel)'), the script of L ints xs at the cell b, what the Statement gives of the start (any of its parts by flat_of_before) -/
def lw_At (p : Program) (s : State) (m : MethodId) (meth : Method) (c : Code) (b L : Nat) (xs : Nat → Int32) : Prop :=
  p.tables.exec = Jvm.exec ∧ c.code = code ∧ meth.sig.returnType = ret ∧ c.maxLocals = 4 ∧ s.vm.findClass R_law = some m.cls ∧ (∀ w ∈ lw_tbl, w.before #[Value.ref b] s = true) ∧ va_X b L xs s s.heap ∧ b < s.heap.size ∧ meth.locks = false ∧ (Jvm.Cond.and given_1 narrow_1).before #[Value.ref b] s = true
theorem lw_iX0 {s : State} {b : Nat} (hts : ∀ w ∈ lw_tbl, w.before #[Value.ref b] s = true) : (Cond.instantiable RX0 5).before #[Value.ref b] s = true := hts _ (by decide +kernel)
theorem lw_iX1 {s : State} {b : Nat} (hts : ∀ w ∈ lw_tbl, w.before #[Value.ref b] s = true) : (Cond.instantiable RX1 6).before #[Value.ref b] s = true := hts _ (by decide +kernel)
theorem lw_iX2 {s : State} {b : Nat} (hts : ∀ w ∈ lw_tbl, w.before #[Value.ref b] s = true) : (Cond.instantiable RX2 2).before #[Value.ref b] s = true := hts _ (by decide +kernel)
theorem lw_iX3 {s : State} {b : Nat} (hts : ∀ w ∈ lw_tbl, w.before #[Value.ref b] s = true) : (Cond.instantiable RX3 7).before #[Value.ref b] s = true := hts _ (by decide +kernel)
theorem lw_iX4 {s : State} {b : Nat} (hts : ∀ w ∈ lw_tbl, w.before #[Value.ref b] s = true) : (Cond.instantiable RX4 3).before #[Value.ref b] s = true := hts _ (by decide +kernel)
theorem lw_iX5 {s : State} {b : Nat} (hts : ∀ w ∈ lw_tbl, w.before #[Value.ref b] s = true) : (Cond.instantiable RX5 8).before #[Value.ref b] s = true := hts _ (by decide +kernel)
theorem lw_iX6 {s : State} {b : Nat} (hts : ∀ w ∈ lw_tbl, w.before #[Value.ref b] s = true) : (Cond.instantiable RX6 3).before #[Value.ref b] s = true := hts _ (by decide +kernel)
theorem lw_iX8 {s : State} {b : Nat} (hts : ∀ w ∈ lw_tbl, w.before #[Value.ref b] s = true) : (Cond.instantiable RX8 8).before #[Value.ref b] s = true := hts _ (by decide +kernel)
theorem lw_iX9 {s : State} {b : Nat} (hts : ∀ w ∈ lw_tbl, w.before #[Value.ref b] s = true) : (Cond.instantiable RX9 31).before #[Value.ref b] s = true := hts _ (by decide +kernel)
theorem lw_aI {s : State} {b : Nat} (hts : ∀ w ∈ lw_tbl, w.before #[Value.ref b] s = true) : (Cond.arrayClass .int).before #[Value.ref b] s = true := hts _ (by decide +kernel)
theorem lw_aJ {s : State} {b : Nat} (hts : ∀ w ∈ lw_tbl, w.before #[Value.ref b] s = true) : (Cond.arrayClass .long).before #[Value.ref b] s = true := hts _ (by decide +kernel)
theorem lw_aO {s : State} {b : Nat} (hts : ∀ w ∈ lw_tbl, w.before #[Value.ref b] s = true) : (Cond.arrayOver (.object RX6)).before #[Value.ref b] s = true := hts _ (by decide +kernel)
theorem lw_n0 {s : State} {b : Nat} (hts : ∀ w ∈ lw_tbl, w.before #[Value.ref b] s = true) : va_Nw (.methodLinkNest RX8 11 yX3_init RX8) s := va_Nw.of rfl (hts (.methodLinkNest RX8 11 yX3_init RX8) (by decide +kernel))
theorem lw_n1 {s : State} {b : Nat} (hts : ∀ w ∈ lw_tbl, w.before #[Value.ref b] s = true) : va_Nw (.methodLinkNest RX8 20 yX1_init RX8) s := va_Nw.of rfl (hts (.methodLinkNest RX8 20 yX1_init RX8) (by decide +kernel))
theorem lw_n2 {s : State} {b : Nat} (hts : ∀ w ∈ lw_tbl, w.before #[Value.ref b] s = true) : va_Nw (.methodLinkNest RX8 27 yX0_init RX8) s := va_Nw.of rfl (hts (.methodLinkNest RX8 27 yX0_init RX8) (by decide +kernel))
theorem lw_n3 {s : State} {b : Nat} (hts : ∀ w ∈ lw_tbl, w.before #[Value.ref b] s = true) : va_Nw (.methodLinkNest RX8 34 yX5_init RX8) s := va_Nw.of rfl (hts (.methodLinkNest RX8 34 yX5_init RX8) (by decide +kernel))
theorem lw_n4 {s : State} {b : Nat} (hts : ∀ w ∈ lw_tbl, w.before #[Value.ref b] s = true) : va_Nw (.methodLinkNest RX8 41 yX4_init RX8) s := va_Nw.of rfl (hts (.methodLinkNest RX8 41 yX4_init RX8) (by decide +kernel))
theorem lw_n5 {s : State} {b : Nat} (hts : ∀ w ∈ lw_tbl, w.before #[Value.ref b] s = true) : va_Nw (.methodLinkNest RX8 59 yX6_init RX8) s := va_Nw.of rfl (hts (.methodLinkNest RX8 59 yX6_init RX8) (by decide +kernel))
theorem lw_n6 {s : State} {b : Nat} (hts : ∀ w ∈ lw_tbl, w.before #[Value.ref b] s = true) : va_Nw (.methodLinkNest RX0 11 yX1_init RX8) s := va_Nw.of rfl (hts (.methodLinkNest RX0 11 yX1_init RX8) (by decide +kernel))
theorem lw_n7 {s : State} {b : Nat} (hts : ∀ w ∈ lw_tbl, w.before #[Value.ref b] s = true) : va_Nw (.methodLinkNest RX0 20 yX3_init RX8) s := va_Nw.of rfl (hts (.methodLinkNest RX0 20 yX3_init RX8) (by decide +kernel))
theorem lw_n8 {s : State} {b : Nat} (hts : ∀ w ∈ lw_tbl, w.before #[Value.ref b] s = true) : va_Nw (.methodLinkNest RX0 65 yX8_hasPerson RX8) s := va_Nw.of rfl (hts (.methodLinkNest RX0 65 yX8_hasPerson RX8) (by decide +kernel))
theorem lw_n9 {s : State} {b : Nat} (hts : ∀ w ∈ lw_tbl, w.before #[Value.ref b] s = true) : va_Nw (.methodLinkNest RX1 11 yX2_init RX8) s := va_Nw.of rfl (hts (.methodLinkNest RX1 11 yX2_init RX8) (by decide +kernel))
theorem lw_n10 {s : State} {b : Nat} (hts : ∀ w ∈ lw_tbl, w.before #[Value.ref b] s = true) : va_Nw (.methodLinkNest RX1 59 yX8_hasMinute RX8) s := va_Nw.of rfl (hts (.methodLinkNest RX1 59 yX8_hasMinute RX8) (by decide +kernel))
theorem lw_n11 {s : State} {b : Nat} (hts : ∀ w ∈ lw_tbl, w.before #[Value.ref b] s = true) : va_Nw (.methodLinkNest RX1 98 yX8_hasPerson RX8) s := va_Nw.of rfl (hts (.methodLinkNest RX1 98 yX8_hasPerson RX8) (by decide +kernel))
theorem lw_n12 {s : State} {b : Nat} (hts : ∀ w ∈ lw_tbl, w.before #[Value.ref b] s = true) : va_Nw (.methodLinkNest RX5 11 yX1_init RX8) s := va_Nw.of rfl (hts (.methodLinkNest RX5 11 yX1_init RX8) (by decide +kernel))
theorem lw_n13 {s : State} {b : Nat} (hts : ∀ w ∈ lw_tbl, w.before #[Value.ref b] s = true) : va_Nw (.methodLinkNest RX5 20 yX3_init RX8) s := va_Nw.of rfl (hts (.methodLinkNest RX5 20 yX3_init RX8) (by decide +kernel))
theorem lw_n14 {s : State} {b : Nat} (hts : ∀ w ∈ lw_tbl, w.before #[Value.ref b] s = true) : va_Nw (.methodLinkNest RX5 57 yX8_hasMinute RX8) s := va_Nw.of rfl (hts (.methodLinkNest RX5 57 yX8_hasMinute RX8) (by decide +kernel))
theorem lw_n15 {s : State} {b : Nat} (hts : ∀ w ∈ lw_tbl, w.before #[Value.ref b] s = true) : va_Nw (.methodLinkNest RX5 65 yX8_isMinute RX8) s := va_Nw.of rfl (hts (.methodLinkNest RX5 65 yX8_isMinute RX8) (by decide +kernel))
theorem lw_n16 {s : State} {b : Nat} (hts : ∀ w ∈ lw_tbl, w.before #[Value.ref b] s = true) : va_Nw (.fieldLinkNest RX8 225 RX6 "lane" "I" RX8) s := va_Nw.of rfl (hts (.fieldLinkNest RX8 225 RX6 "lane" "I" RX8) (by decide +kernel))
theorem lw_n17 {s : State} {b : Nat} (hts : ∀ w ∈ lw_tbl, w.before #[Value.ref b] s = true) : va_Nw (.fieldLinkNest RX8 228 RX6 "cells" "[I" RX8) s := va_Nw.of rfl (hts (.fieldLinkNest RX8 228 RX6 "cells" "[I" RX8) (by decide +kernel))
theorem lw_n18 {s : State} {b : Nat} (hts : ∀ w ∈ lw_tbl, w.before #[Value.ref b] s = true) : va_Nw (.fieldLinkNest RX1 115 RX2 "row" "[I" RX8) s := va_Nw.of rfl (hts (.fieldLinkNest RX1 115 RX2 "row" "[I" RX8) (by decide +kernel))
theorem lw_nw {s : State} {b : Nat} (hts : ∀ w ∈ lw_tbl, w.before #[Value.ref b] s = true) : NW s := ⟨lw_n0 hts, lw_n1 hts, lw_n2 hts, lw_n3 hts, lw_n4 hts, lw_n5 hts, lw_n6 hts, lw_n7 hts, lw_n8 hts, lw_n9 hts, lw_n10 hts, lw_n11 hts, lw_n12 hts, lw_n13 hts, lw_n14 hts, lw_n15 hts, lw_n16 hts, lw_n17 hts, lw_n18 hts⟩

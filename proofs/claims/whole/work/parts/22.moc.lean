/-! ===== TurnQueueModel.best ===== -/
abbrev w_Mo_best (cI cJ cS : ClassId) (q_t : Nat) (q_t_kindOf : Nat) (q_t_comes : Nat) (q_t_wants : Nat) (q_t_runs : Nat) (q_t_readKind : Nat) (q_t_readComes : Nat) (q_t_readWants : Nat) (q_t_queueNow : Nat) (q_t_servedAt : Nat) (q_t_comesWas : Nat) (q_t_readingOf : Nat) (q_t_readingAt : Nat) (q_t_sheetSize : Nat) (q_t_sheetLane : Nat) (q_t_sheet : Nat) (q_t_hands : Nat) (t_fault : Int32) (t_persons : Int32) (t_law : Int32) (t_bellSet : Int64) (t_readAt : Int32) (t_readLaw : Int32) (t_readMany : Int32) (t_queueMany : Int32) (t_servedNow : Int32) (t_doneAt : Int32) (t_readings : Int32) (t_whichMany : Int32) (t_whichOne : Int32) (t_whichTwo : Int32) (t_traceNow : Int32) (t_kindOf : Nat → Int32) (t_comes : Nat → Int32) (t_wants : Nat → Int32) (t_runs : Nat → Int32) (t_queueNow : Nat → Int32) (t_servedAt : Nat → Int32) : va_W := [(q_t, .inr (8, [.int t_fault, .int t_persons, .int t_law, .ref q_t_kindOf, .ref q_t_comes, .ref q_t_wants, .ref q_t_runs, .long t_bellSet, .int t_readAt, .int t_readLaw, .int t_readMany, .ref q_t_readKind, .ref q_t_readComes, .ref q_t_readWants, .ref q_t_queueNow, .int t_queueMany, .int t_servedNow, .int t_doneAt, .ref q_t_servedAt, .ref q_t_comesWas, .int t_readings, .ref q_t_readingOf, .ref q_t_readingAt, .int t_whichMany, .int t_whichOne, .int t_whichTwo, .ref q_t_sheetSize, .ref q_t_sheetLane, .ref q_t_sheet, .ref q_t_hands, .int t_traceNow])), (q_t_kindOf, ar cI 7 t_kindOf), (q_t_comes, ar cI 7 t_comes), (q_t_wants, ar cI 7 t_wants), (q_t_runs, ar cI 7 t_runs), (q_t_queueNow, ar cI 7 t_queueNow), (q_t_servedAt, ar cI 7 t_servedAt)]
abbrev rm_Mo_best : Room := { frames := 5, cells := 0, slots := 0, locals := 114 }
noncomputable def Mo_best_j90 (p_p : Int32) (p_what : Int32) (t_persons : Int32) (t_law : Int32) (t_bellSet : Int64) (t_kindOf : Nat → Int32) (t_wants : Nat → Int32) (t_runs : Nat → Int32) (x3 : Int32) (x4 : Int32) (x5 : Int32) (t_queueMany : Int32) (t_servedNow : Int32) (t_doneAt : Int32) (t_comes : Nat → Int32) (t_queueNow : Nat → Int32) (t_servedAt : Nat → Int32) : Option (Int32 × Int32 × Int32 × Int32 × (Nat → Int32) × (Nat → Int32) × (Nat → Int32)) :=
  if ck p_p 7 = true then
    if p_what = 0 then
      some (x4, t_queueMany, t_servedNow, t_doneAt, upd t_comes p_p.toNatClampNeg x3, t_queueNow, t_servedAt)
    else
      some (x5, t_queueMany, t_servedNow, t_doneAt, upd t_comes p_p.toNatClampNeg x3, t_queueNow, t_servedAt)
  else none
noncomputable def Mo_best_b42 (p_p : Int32) (p_what : Int32) (t_persons : Int32) (t_law : Int32) (t_bellSet : Int64) (t_kindOf : Nat → Int32) (t_wants : Nat → Int32) (t_runs : Nat → Int32) (x3 : Int32) (x4 : Int32) (x5 : Int32) (x6 : Int32) (t_queueMany : Int32) (t_servedNow : Int32) (t_doneAt : Int32) (t_comes : Nat → Int32) (t_queueNow : Nat → Int32) (t_servedAt : Nat → Int32) : Option ((Int32 × Int32 × Int32 × Int32 × Int32 × Int32 × Int32 × (Nat → Int32) × (Nat → Int32) × (Nat → Int32)) ⊕ (Int32 × Int32 × Int32 × Int32 × (Nat → Int32) × (Nat → Int32) × (Nat → Int32))) :=
  if 60 ≤ x6 then
    ex (Mo_best_j90 p_p p_what t_persons t_law t_bellSet t_kindOf t_wants t_runs x3 x4 x5 t_queueMany t_servedNow t_doneAt t_comes t_queueNow t_servedAt)
  else
    if ck p_p 7 = true then
      (Mo_goNow t_persons t_law t_bellSet t_kindOf (upd t_comes p_p.toNatClampNeg x6) t_wants t_runs t_queueMany t_servedNow t_doneAt t_queueNow t_servedAt).bind fun y13 =>
      if ck p_p 7 = true then
        if x5 < (y13.2.2.2.2 p_p.toNatClampNeg) then
          lt (x6 + 1) fun y17 =>
          some (.inl (x3, x4, x5, y17, y13.1, y13.2.1, y13.2.2.1, upd t_comes p_p.toNatClampNeg x6, y13.2.2.2.1, y13.2.2.2.2))
        else
          if ck p_p 7 = true then
            lt (y13.2.2.2.2 p_p.toNatClampNeg) fun y19 =>
            lt (x6 + 1) fun y20 =>
            some (.inl (x3, x6, y19, y20, y13.1, y13.2.1, y13.2.2.1, upd t_comes p_p.toNatClampNeg x6, y13.2.2.2.1, y13.2.2.2.2))
          else none
      else none
    else none
noncomputable def Mo_best_s42 (p_p : Int32) (p_what : Int32) (t_persons : Int32) (t_law : Int32) (t_bellSet : Int64) (t_kindOf : Nat → Int32) (t_wants : Nat → Int32) (t_runs : Nat → Int32) : (Int32 × Int32 × Int32 × Int32 × Int32 × Int32 × Int32 × (Nat → Int32) × (Nat → Int32) × (Nat → Int32)) → Option ((Int32 × Int32 × Int32 × Int32 × Int32 × Int32 × Int32 × (Nat → Int32) × (Nat → Int32) × (Nat → Int32)) ⊕ (Int32 × Int32 × Int32 × Int32 × (Nat → Int32) × (Nat → Int32) × (Nat → Int32))) := fun x => Mo_best_b42 p_p p_what t_persons t_law t_bellSet t_kindOf t_wants t_runs x.1 x.2.1 x.2.2.1 x.2.2.2.1 x.2.2.2.2.1 x.2.2.2.2.2.1 x.2.2.2.2.2.2.1 x.2.2.2.2.2.2.2.1 x.2.2.2.2.2.2.2.2.1 x.2.2.2.2.2.2.2.2.2
noncomputable def Mo_best_l42 (p_p : Int32) (p_what : Int32) (t_persons : Int32) (t_law : Int32) (t_bellSet : Int64) (t_kindOf : Nat → Int32) (t_wants : Nat → Int32) (t_runs : Nat → Int32) (x3 : Int32) (x4 : Int32) (x5 : Int32) (x6 : Int32) (t_queueMany : Int32) (t_servedNow : Int32) (t_doneAt : Int32) (t_comes : Nat → Int32) (t_queueNow : Nat → Int32) (t_servedAt : Nat → Int32) : Option (Int32 × Int32 × Int32 × Int32 × (Nat → Int32) × (Nat → Int32) × (Nat → Int32)) := fin (Mo_best_s42 p_p p_what t_persons t_law t_bellSet t_kindOf t_wants t_runs) (x3, x4, x5, x6, t_queueMany, t_servedNow, t_doneAt, t_comes, t_queueNow, t_servedAt)
noncomputable def Mo_best (p_p : Int32) (p_what : Int32) (t_persons : Int32) (t_law : Int32) (t_bellSet : Int64) (t_kindOf : Nat → Int32) (t_wants : Nat → Int32) (t_runs : Nat → Int32) (t_queueMany : Int32) (t_servedNow : Int32) (t_doneAt : Int32) (t_comes : Nat → Int32) (t_queueNow : Nat → Int32) (t_servedAt : Nat → Int32) : Option (Int32 × Int32 × Int32 × Int32 × (Nat → Int32) × (Nat → Int32) × (Nat → Int32)) :=
  (Mo_noPerson p_p t_persons).bind fun y1 =>
  if y1 = 0 then
    (Mo_in p_what.toInt64 0 1).bind fun y4 =>
    if y4 = 0 then
      some ((-2), t_queueMany, t_servedNow, t_doneAt, t_comes, t_queueNow, t_servedAt)
    else
      if ck p_p 7 = true then
        lt (t_comes p_p.toNatClampNeg) fun y8 =>
        Mo_best_l42 p_p p_what t_persons t_law t_bellSet t_kindOf t_wants t_runs y8 (-9) 200 0 t_queueMany t_servedNow t_doneAt t_comes t_queueNow t_servedAt
      else none
  else
    some ((-1), t_queueMany, t_servedNow, t_doneAt, t_comes, t_queueNow, t_servedAt)
theorem Mo_best_l42_eq (p_p : Int32) (p_what : Int32) (t_persons : Int32) (t_law : Int32) (t_bellSet : Int64) (t_kindOf : Nat → Int32) (t_wants : Nat → Int32) (t_runs : Nat → Int32) (x3 : Int32) (x4 : Int32) (x5 : Int32) (x6 : Int32) (t_queueMany : Int32) (t_servedNow : Int32) (t_doneAt : Int32) (t_comes : Nat → Int32) (t_queueNow : Nat → Int32) (t_servedAt : Nat → Int32) : Mo_best_l42 p_p p_what t_persons t_law t_bellSet t_kindOf t_wants t_runs x3 x4 x5 x6 t_queueMany t_servedNow t_doneAt t_comes t_queueNow t_servedAt = (Mo_best_b42 p_p p_what t_persons t_law t_bellSet t_kindOf t_wants t_runs x3 x4 x5 x6 t_queueMany t_servedNow t_doneAt t_comes t_queueNow t_servedAt).bind (sg (fin (Mo_best_s42 p_p p_what t_persons t_law t_bellSet t_kindOf t_wants t_runs))) := by
  unfold Mo_best_l42
  exact fin_eq _ _
theorem Mo_best_l42_fd (p_p : Int32) (p_what : Int32) (t_persons : Int32) (t_law : Int32) (t_bellSet : Int64) (t_kindOf : Nat → Int32) (t_wants : Nat → Int32) (t_runs : Nat → Int32) (x3 : Int32) (x4 : Int32) (x5 : Int32) (x6 : Int32) (t_queueMany : Int32) (t_servedNow : Int32) (t_doneAt : Int32) (t_comes : Nat → Int32) (t_queueNow : Nat → Int32) (t_servedAt : Nat → Int32) : fin (Mo_best_s42 p_p p_what t_persons t_law t_bellSet t_kindOf t_wants t_runs) (x3, x4, x5, x6, t_queueMany, t_servedNow, t_doneAt, t_comes, t_queueNow, t_servedAt) = Mo_best_l42 p_p p_what t_persons t_law t_bellSet t_kindOf t_wants t_runs x3 x4 x5 x6 t_queueMany t_servedNow t_doneAt t_comes t_queueNow t_servedAt := rfl
set_option maxRecDepth 100000 in
set_option maxHeartbeats 4000000 in
theorem c_Mo_best (l : Launch) (D : va_G) (cI cJ cS : ClassId) (q_t q_t_kindOf q_t_comes q_t_wants q_t_runs q_t_readKind q_t_readComes q_t_readWants q_t_queueNow q_t_servedAt q_t_comesWas q_t_readingOf q_t_readingAt q_t_sheetSize q_t_sheetLane q_t_sheet q_t_hands : Nat) (t_fault : Int32) (t_persons : Int32) (t_law : Int32) (t_bellSet : Int64) (t_readAt : Int32) (t_readLaw : Int32) (t_readMany : Int32) (t_queueMany : Int32) (t_servedNow : Int32) (t_doneAt : Int32) (t_readings : Int32) (t_whichMany : Int32) (t_whichOne : Int32) (t_whichTwo : Int32) (t_traceNow : Int32) (t_kindOf : Nat → Int32) (t_comes : Nat → Int32) (t_wants : Nat → Int32) (t_runs : Nat → Int32) (t_queueNow : Nat → Int32) (t_servedAt : Nat → Int32) (p_p : Int32) (p_what : Int32) (o : Int32 × Int32 × Int32 × Int32 × (Nat → Int32) × (Nat → Int32) × (Nat → Int32)) (hM : Mo_best p_p p_what t_persons t_law t_bellSet t_kindOf t_wants t_runs t_queueMany t_servedNow t_doneAt t_comes t_queueNow t_servedAt = some o) : Ci l yX9_best wsX9_best rm_Mo_best D cI cJ cS [.ref q_t, .int p_p, .int p_what] (w_Mo_best cI cJ cS q_t q_t_kindOf q_t_comes q_t_wants q_t_runs q_t_readKind q_t_readComes q_t_readWants q_t_queueNow q_t_servedAt q_t_comesWas q_t_readingOf q_t_readingAt q_t_sheetSize q_t_sheetLane q_t_sheet q_t_hands t_fault t_persons t_law t_bellSet t_readAt t_readLaw t_readMany t_queueMany t_servedNow t_doneAt t_readings t_whichMany t_whichOne t_whichTwo t_traceNow t_kindOf t_comes t_wants t_runs t_queueNow t_servedAt) (w_Mo_best cI cJ cS q_t q_t_kindOf q_t_comes q_t_wants q_t_runs q_t_readKind q_t_readComes q_t_readWants q_t_queueNow q_t_servedAt q_t_comesWas q_t_readingOf q_t_readingAt q_t_sheetSize q_t_sheetLane q_t_sheet q_t_hands t_fault t_persons t_law t_bellSet t_readAt t_readLaw t_readMany o.2.1 o.2.2.1 o.2.2.2.1 t_readings t_whichMany t_whichOne t_whichTwo t_traceNow t_kindOf o.2.2.2.2.1 t_wants t_runs o.2.2.2.2.2.1 o.2.2.2.2.2.2) o.1 := by
  refine Ci.of (cc := cX9_best) (maxL := 7) (ret := (some .int)) (by decide) rfl (Nat.le_of_ble_eq_true rfl) ?_
  intro p e s m args below meth c A ls hE
  obtain ⟨hx, hb, hr, hml, hown, hts, hlocks, hK, hA, hP, hD, hS, hl⟩ := hE
  have hown : s.vm.findClass RX9 = some m.cls := hown
  have hl : lv_has ls 7 [(0, .ref q_t), (1, .int p_p), (2, .int p_what)] := hl
  have iX9 : ∀ w ∈ u_ws RX9 TX9 31, w ∈ wsX9_best := by decide +kernel
  have k0 := hts (.fieldLink RX9 13 "TurnQueueModel" "comes" "[I") (by decide +kernel)
  have k1 := hts (.fieldLink RX9 34 "TurnQueueModel" "servedAt" "[I") (by decide +kernel)
  have J90 : ∀ (x3 : Int32) (x4 : Int32) (x5 : Int32) (t_queueMany : Int32) (t_servedNow : Int32) (t_doneAt : Int32) (t_comes : Nat → Int32) (t_queueNow : Nat → Int32) (t_servedAt : Nat → Int32), Mo_best_j90 p_p p_what t_persons t_law t_bellSet t_kindOf t_wants t_runs x3 x4 x5 t_queueMany t_servedNow t_doneAt t_comes t_queueNow t_servedAt = some o → ∀ (H : Heap) (locs : List Loc), va_P D vwCl (w_Mo_best cI cJ cS q_t q_t_kindOf q_t_comes q_t_wants q_t_runs q_t_readKind q_t_readComes q_t_readWants q_t_queueNow q_t_servedAt q_t_comesWas q_t_readingOf q_t_readingAt q_t_sheetSize q_t_sheetLane q_t_sheet q_t_hands t_fault t_persons t_law t_bellSet t_readAt t_readLaw t_readMany t_queueMany t_servedNow t_doneAt t_readings t_whichMany t_whichOne t_whichTwo t_traceNow t_kindOf t_comes t_wants t_runs t_queueNow t_servedAt) H → va_D A (w_Mo_best cI cJ cS q_t q_t_kindOf q_t_comes q_t_wants q_t_runs q_t_readKind q_t_readComes q_t_readWants q_t_queueNow q_t_servedAt q_t_comesWas q_t_readingOf q_t_readingAt q_t_sheetSize q_t_sheetLane q_t_sheet q_t_hands t_fault t_persons t_law t_bellSet t_readAt t_readLaw t_readMany t_queueMany t_servedNow t_doneAt t_readings t_whichMany t_whichOne t_whichTwo t_traceNow t_kindOf t_comes t_wants t_runs t_queueNow t_servedAt) → va_S A s.heap H locs → ∀ ls : Array Slot, lv_has ls 7 [(0, .ref q_t), (1, .int p_p), (2, .int p_what), (3, .int x3), (4, .int x4), (5, .int x5)] → W p l e (headSpec wsX9_best rm_Mo_best).room s m args below meth c H locs 0 0 (MQ below (CQi D (w_Mo_best cI cJ cS q_t q_t_kindOf q_t_comes q_t_wants q_t_runs q_t_readKind q_t_readComes q_t_readWants q_t_queueNow q_t_servedAt q_t_comesWas q_t_readingOf q_t_readingAt q_t_sheetSize q_t_sheetLane q_t_sheet q_t_hands t_fault t_persons t_law t_bellSet t_readAt t_readLaw t_readMany o.2.1 o.2.2.1 o.2.2.2.1 t_readings t_whichMany t_whichOne t_whichTwo t_traceNow t_kindOf o.2.2.2.2.1 t_wants t_runs o.2.2.2.2.2.1 o.2.2.2.2.2.2) A o.1) args s 0 0 A) (F0 m 90 ls []) := by
    intro x3 x4 x5 t_queueMany t_servedNow t_doneAt t_comes t_queueNow t_servedAt hM H locs hP hD hS ls hl
    unfold Mo_best_j90 at hM
    refine lv_aload_n hx hb dX9_best_90 rfl (lv_at hl 0 rfl) ?_
    refine va_get (ci := 8) (v := .ref q_t_comes) (C := RX9) (T := TX9) (N := 31) hx hb hts iX9 hown hK.1 hP 0 rfl rfl 4 (Nat.le_of_ble_eq_true rfl) k0 (fun _ h9 => h9) rfl dX9_best_91 ?_
    refine lv_iload_n hx hb dX9_best_94 rfl (lv_at hl 1 rfl) ?_
    refine lv_iload_n hx hb dX9_best_95 rfl (lv_at hl 3 rfl) ?_
    obtain ⟨h10, hM⟩ := o_ck hM
    refine va_iast hx hb hK.1 hP hD hS 2 0 rfl rfl h10 dX9_best_96 (fun H locs hP hD hS => ?_)
    have hP : va_P D vwCl (w_Mo_best cI cJ cS q_t q_t_kindOf q_t_comes q_t_wants q_t_runs q_t_readKind q_t_readComes q_t_readWants q_t_queueNow q_t_servedAt q_t_comesWas q_t_readingOf q_t_readingAt q_t_sheetSize q_t_sheetLane q_t_sheet q_t_hands t_fault t_persons t_law t_bellSet t_readAt t_readLaw t_readMany t_queueMany t_servedNow t_doneAt t_readings t_whichMany t_whichOne t_whichTwo t_traceNow t_kindOf (upd t_comes p_p.toNatClampNeg x3) t_wants t_runs t_queueNow t_servedAt) H := hP
    have hD : va_D A (w_Mo_best cI cJ cS q_t q_t_kindOf q_t_comes q_t_wants q_t_runs q_t_readKind q_t_readComes q_t_readWants q_t_queueNow q_t_servedAt q_t_comesWas q_t_readingOf q_t_readingAt q_t_sheetSize q_t_sheetLane q_t_sheet q_t_hands t_fault t_persons t_law t_bellSet t_readAt t_readLaw t_readMany t_queueMany t_servedNow t_doneAt t_readings t_whichMany t_whichOne t_whichTwo t_traceNow t_kindOf (upd t_comes p_p.toNatClampNeg x3) t_wants t_runs t_queueNow t_servedAt) := hD
    refine lv_iload_n hx hb dX9_best_97 rfl (lv_at hl 2 rfl) ?_
    refine lv_if_ne (tgt := 106) hx hb dX9_best_98 (by decide) (fun c11 => ?_) (fun c11 => ?_)
    · have hM := (o_if hM).2 c11
      refine lv_iload hx hb dX9_best_106 (lv_at hl 5 rfl) ?_
      have hM := (Option.some.inj hM)
      subst hM
      exact rt_i hx hb hr hlocks hP hD hS dX9_best_108
    · have hM := (o_if hM).1 c11
      refine lv_iload hx hb dX9_best_101 (lv_at hl 4 rfl) ?_
      refine lv_goto (tgt := 108) hx hb dX9_best_103 (by decide) ?_
      have hM := (Option.some.inj hM)
      subst hM
      exact rt_i hx hb hr hlocks hP hD hS dX9_best_108
  have L42 : ∀ n : Nat, (∀ (x3 : Int32) (x4 : Int32) (x5 : Int32) (x6 : Int32) (t_queueMany : Int32) (t_servedNow : Int32) (t_doneAt : Int32) (t_comes : Nat → Int32) (t_queueNow : Nat → Int32) (t_servedAt : Nat → Int32), itr (Mo_best_s42 p_p p_what t_persons t_law t_bellSet t_kindOf t_wants t_runs) n (x3, x4, x5, x6, t_queueMany, t_servedNow, t_doneAt, t_comes, t_queueNow, t_servedAt) = some o → ∀ (H : Heap) (locs : List Loc), va_P D vwCl (w_Mo_best cI cJ cS q_t q_t_kindOf q_t_comes q_t_wants q_t_runs q_t_readKind q_t_readComes q_t_readWants q_t_queueNow q_t_servedAt q_t_comesWas q_t_readingOf q_t_readingAt q_t_sheetSize q_t_sheetLane q_t_sheet q_t_hands t_fault t_persons t_law t_bellSet t_readAt t_readLaw t_readMany t_queueMany t_servedNow t_doneAt t_readings t_whichMany t_whichOne t_whichTwo t_traceNow t_kindOf t_comes t_wants t_runs t_queueNow t_servedAt) H → va_D A (w_Mo_best cI cJ cS q_t q_t_kindOf q_t_comes q_t_wants q_t_runs q_t_readKind q_t_readComes q_t_readWants q_t_queueNow q_t_servedAt q_t_comesWas q_t_readingOf q_t_readingAt q_t_sheetSize q_t_sheetLane q_t_sheet q_t_hands t_fault t_persons t_law t_bellSet t_readAt t_readLaw t_readMany t_queueMany t_servedNow t_doneAt t_readings t_whichMany t_whichOne t_whichTwo t_traceNow t_kindOf t_comes t_wants t_runs t_queueNow t_servedAt) → va_S A s.heap H locs → ∀ ls : Array Slot, lv_has ls 7 [(0, .ref q_t), (1, .int p_p), (2, .int p_what), (3, .int x3), (4, .int x4), (5, .int x5), (6, .int x6)] → W p l e (headSpec wsX9_best rm_Mo_best).room s m args below meth c H locs 0 0 (MQ below (CQi D (w_Mo_best cI cJ cS q_t q_t_kindOf q_t_comes q_t_wants q_t_runs q_t_readKind q_t_readComes q_t_readWants q_t_queueNow q_t_servedAt q_t_comesWas q_t_readingOf q_t_readingAt q_t_sheetSize q_t_sheetLane q_t_sheet q_t_hands t_fault t_persons t_law t_bellSet t_readAt t_readLaw t_readMany o.2.1 o.2.2.1 o.2.2.2.1 t_readings t_whichMany t_whichOne t_whichTwo t_traceNow t_kindOf o.2.2.2.2.1 t_wants t_runs o.2.2.2.2.2.1 o.2.2.2.2.2.2) A o.1) args s 0 0 A) (F0 m 42 ls [])) := by
    intro n
    induction n with
    | zero => exact fun _ _ _ _ _ _ _ _ _ _ hM => (itr_0 hM).elim
    | succ n ih =>
      intro x3 x4 x5 x6 t_queueMany t_servedNow t_doneAt t_comes t_queueNow t_servedAt hM H locs hP hD hS ls hl
      have hM : (Mo_best_b42 p_p p_what t_persons t_law t_bellSet t_kindOf t_wants t_runs x3 x4 x5 x6 t_queueMany t_servedNow t_doneAt t_comes t_queueNow t_servedAt).bind (sg (itr (Mo_best_s42 p_p p_what t_persons t_law t_bellSet t_kindOf t_wants t_runs) n)) = some o := hM
      unfold Mo_best_b42 at hM
      refine lv_iload hx hb dX9_best_42 (lv_at hl 6 rfl) ?_
      refine lv_bipush (v := 60) hx hb dX9_best_44 (by decide) ?_
      refine lv_icmp_ge (tgt := 90) hx hb dX9_best_46 (by decide) (fun c9 => ?_) (fun c9 => ?_)
      · have hM := (s_if hM).1 c9
        exact J90 x3 x4 x5 t_queueMany t_servedNow t_doneAt t_comes t_queueNow t_servedAt (s_ex hM) _ _ hP hD hS _ (lv_sub hl [0, 1, 2, 3, 4, 5] rfl)
      · have hM := (s_if hM).2 c9
        refine lv_aload_n hx hb dX9_best_49 rfl (lv_at hl 0 rfl) ?_
        refine va_get (ci := 8) (v := .ref q_t_comes) (C := RX9) (T := TX9) (N := 31) hx hb hts iX9 hown hK.1 hP 0 rfl rfl 4 (Nat.le_of_ble_eq_true rfl) k0 (fun _ h9 => h9) rfl dX9_best_50 ?_
        refine lv_iload_n hx hb dX9_best_53 rfl (lv_at hl 1 rfl) ?_
        refine lv_iload hx hb dX9_best_54 (lv_at hl 6 rfl) ?_
        obtain ⟨h12, hM⟩ := s_ck hM
        refine va_iast hx hb hK.1 hP hD hS 2 0 rfl rfl h12 dX9_best_56 (fun H locs hP hD hS => ?_)
        have hP : va_P D vwCl (w_Mo_best cI cJ cS q_t q_t_kindOf q_t_comes q_t_wants q_t_runs q_t_readKind q_t_readComes q_t_readWants q_t_queueNow q_t_servedAt q_t_comesWas q_t_readingOf q_t_readingAt q_t_sheetSize q_t_sheetLane q_t_sheet q_t_hands t_fault t_persons t_law t_bellSet t_readAt t_readLaw t_readMany t_queueMany t_servedNow t_doneAt t_readings t_whichMany t_whichOne t_whichTwo t_traceNow t_kindOf (upd t_comes p_p.toNatClampNeg x6) t_wants t_runs t_queueNow t_servedAt) H := hP
        have hD : va_D A (w_Mo_best cI cJ cS q_t q_t_kindOf q_t_comes q_t_wants q_t_runs q_t_readKind q_t_readComes q_t_readWants q_t_queueNow q_t_servedAt q_t_comesWas q_t_readingOf q_t_readingAt q_t_sheetSize q_t_sheetLane q_t_sheet q_t_hands t_fault t_persons t_law t_bellSet t_readAt t_readLaw t_readMany t_queueMany t_servedNow t_doneAt t_readings t_whichMany t_whichOne t_whichTwo t_traceNow t_kindOf (upd t_comes p_p.toNatClampNeg x6) t_wants t_runs t_queueNow t_servedAt) := hD
        refine lv_aload_n hx hb dX9_best_57 rfl (lv_at hl 0 rfl) ?_
        obtain ⟨y13, h14, hM⟩ := s_bd hM
        refine af_v (ws2 := (w_Mo_best cI cJ cS q_t q_t_kindOf q_t_comes q_t_wants q_t_runs q_t_readKind q_t_readComes q_t_readWants q_t_queueNow q_t_servedAt q_t_comesWas q_t_readingOf q_t_readingAt q_t_sheetSize q_t_sheetLane q_t_sheet q_t_hands t_fault t_persons t_law t_bellSet t_readAt t_readLaw t_readMany y13.1 y13.2.1 y13.2.2.1 t_readings t_whichMany t_whichOne t_whichTwo t_traceNow t_kindOf (upd t_comes p_p.toNatClampNeg x6) t_wants t_runs y13.2.2.2.1 y13.2.2.2.2)) (va_runV (As := []) (rest := []) ⟨hx, hb, hml, hown, hts⟩ (c_Mo_goNow l D cI cJ cS q_t q_t_kindOf q_t_comes q_t_wants q_t_runs q_t_readKind q_t_readComes q_t_readWants q_t_queueNow q_t_servedAt q_t_comesWas q_t_readingOf q_t_readingAt q_t_sheetSize q_t_sheetLane q_t_sheet q_t_hands t_fault t_persons t_law t_bellSet t_readAt t_readLaw t_readMany t_queueMany t_servedNow t_doneAt t_readings t_whichMany t_whichOne t_whichTwo t_traceNow t_kindOf (upd t_comes p_p.toNatClampNeg x6) t_wants t_runs t_queueNow t_servedAt y13 h14 _) (cwV 0 hts gX9_best_X9_goNow rfl rfl rfl (by decide +kernel) ⟨(Nat.le_of_ble_eq_true rfl), (Nat.le_of_ble_eq_true rfl)⟩) (pre_V hK hP hD [0, 1, 2, 3, 4, 5, 6] rfl rfl rfl rfl) rfl rfl hl.1 rfl (lv_room (Nat.le_of_ble_eq_true rfl)) dX9_best_58 ⟨Nat.zero_le _, Nat.zero_le _⟩) hP hD hS hA [0, 1, 2, 3, 4, 5, 6] [] [0, 1, 2, 3, 4, 5, 6] rfl rfl rfl (by decide) rfl rfl (fun H locs hP hD hS => ?_)
        refine lv_aload_n hx hb dX9_best_61 rfl (lv_at hl 0 rfl) ?_
        refine va_get (ci := 8) (v := .ref q_t_servedAt) (C := RX9) (T := TX9) (N := 31) hx hb hts iX9 hown hK.1 hP 0 rfl rfl 18 (Nat.le_of_ble_eq_true rfl) k1 (fun _ h9 => h9) rfl dX9_best_62 ?_
        refine lv_iload_n hx hb dX9_best_65 rfl (lv_at hl 1 rfl) ?_
        obtain ⟨h15, hM⟩ := s_ck hM
        refine va_iald hx hb hK.1 hP 6 0 rfl rfl h15 dX9_best_66 ?_
        refine lv_iload hx hb dX9_best_67 (lv_at hl 5 rfl) ?_
        refine lv_icmp_gt (tgt := 84) hx hb dX9_best_69 (by decide) (fun c16 => ?_) (fun c16 => ?_)
        · have hM := (s_if hM).1 c16
          obtain ⟨y17, ey17⟩ : ∃ y : Int32, y = x6 + 1 := ⟨_, rfl⟩
          have hM := s_lt hM y17 ey17
          refine lv_iinc (v := y17) (lv' := [(6, .int y17), (0, .ref q_t), (1, .int p_p), (2, .int p_what), (3, .int x3), (4, .int x4), (5, .int x5)]) hx hb dX9_best_84 hl (k := 6) rfl (by rw [ey17]; rfl) (Nat.le_of_ble_eq_true rfl) rfl (fun ls hl => ?_)
          refine lv_goto (tgt := 42) hx hb dX9_best_87 (by decide) ?_
          exact ih x3 x4 x5 y17 y13.1 y13.2.1 y13.2.2.1 (upd t_comes p_p.toNatClampNeg x6) y13.2.2.2.1 y13.2.2.2.2 (s_jp hM) _ _ hP hD hS _ (lv_sub hl [1, 2, 3, 4, 5, 6, 0] rfl)
        · have hM := (s_if hM).2 c16
          refine lv_iload hx hb dX9_best_72 (lv_at hl 6 rfl) ?_
          refine lv_istore (lv' := [(4, .int x6), (0, .ref q_t), (1, .int p_p), (2, .int p_what), (3, .int x3), (5, .int x5), (6, .int x6)]) hx hb dX9_best_74 hl (Nat.le_of_ble_eq_true rfl) rfl (fun ls hl => ?_)
          refine lv_aload_n hx hb dX9_best_76 rfl (lv_at hl 1 rfl) ?_
          refine va_get (ci := 8) (v := .ref q_t_servedAt) (C := RX9) (T := TX9) (N := 31) hx hb hts iX9 hown hK.1 hP 0 rfl rfl 18 (Nat.le_of_ble_eq_true rfl) k1 (fun _ h9 => h9) rfl dX9_best_77 ?_
          refine lv_iload_n hx hb dX9_best_80 rfl (lv_at hl 2 rfl) ?_
          obtain ⟨h18, hM⟩ := s_ck hM
          refine va_iald hx hb hK.1 hP 6 0 rfl rfl h18 dX9_best_81 ?_
          refine lv_topi (fun y19 ey19 => ?_)
          have hM := s_lt hM y19 ey19
          refine lv_istore (lv' := [(5, .int y19), (4, .int x6), (0, .ref q_t), (1, .int p_p), (2, .int p_what), (3, .int x3), (6, .int x6)]) hx hb dX9_best_82 hl (Nat.le_of_ble_eq_true rfl) rfl (fun ls hl => ?_)
          obtain ⟨y20, ey20⟩ : ∃ y : Int32, y = x6 + 1 := ⟨_, rfl⟩
          have hM := s_lt hM y20 ey20
          refine lv_iinc (v := y20) (lv' := [(6, .int y20), (5, .int y19), (4, .int x6), (0, .ref q_t), (1, .int p_p), (2, .int p_what), (3, .int x3)]) hx hb dX9_best_84 hl (k := 6) rfl (by rw [ey20]; rfl) (Nat.le_of_ble_eq_true rfl) rfl (fun ls hl => ?_)
          refine lv_goto (tgt := 42) hx hb dX9_best_87 (by decide) ?_
          exact ih x3 x6 y19 y20 y13.1 y13.2.1 y13.2.2.1 (upd t_comes p_p.toNatClampNeg x6) y13.2.2.2.1 y13.2.2.2.2 (s_jp hM) _ _ hP hD hS _ (lv_sub hl [3, 4, 5, 6, 2, 1, 0] rfl)
  have J42 : ∀ (x3 : Int32) (x4 : Int32) (x5 : Int32) (x6 : Int32) (t_queueMany : Int32) (t_servedNow : Int32) (t_doneAt : Int32) (t_comes : Nat → Int32) (t_queueNow : Nat → Int32) (t_servedAt : Nat → Int32), Mo_best_l42 p_p p_what t_persons t_law t_bellSet t_kindOf t_wants t_runs x3 x4 x5 x6 t_queueMany t_servedNow t_doneAt t_comes t_queueNow t_servedAt = some o → ∀ (H : Heap) (locs : List Loc), va_P D vwCl (w_Mo_best cI cJ cS q_t q_t_kindOf q_t_comes q_t_wants q_t_runs q_t_readKind q_t_readComes q_t_readWants q_t_queueNow q_t_servedAt q_t_comesWas q_t_readingOf q_t_readingAt q_t_sheetSize q_t_sheetLane q_t_sheet q_t_hands t_fault t_persons t_law t_bellSet t_readAt t_readLaw t_readMany t_queueMany t_servedNow t_doneAt t_readings t_whichMany t_whichOne t_whichTwo t_traceNow t_kindOf t_comes t_wants t_runs t_queueNow t_servedAt) H → va_D A (w_Mo_best cI cJ cS q_t q_t_kindOf q_t_comes q_t_wants q_t_runs q_t_readKind q_t_readComes q_t_readWants q_t_queueNow q_t_servedAt q_t_comesWas q_t_readingOf q_t_readingAt q_t_sheetSize q_t_sheetLane q_t_sheet q_t_hands t_fault t_persons t_law t_bellSet t_readAt t_readLaw t_readMany t_queueMany t_servedNow t_doneAt t_readings t_whichMany t_whichOne t_whichTwo t_traceNow t_kindOf t_comes t_wants t_runs t_queueNow t_servedAt) → va_S A s.heap H locs → ∀ ls : Array Slot, lv_has ls 7 [(0, .ref q_t), (1, .int p_p), (2, .int p_what), (3, .int x3), (4, .int x4), (5, .int x5), (6, .int x6)] → W p l e (headSpec wsX9_best rm_Mo_best).room s m args below meth c H locs 0 0 (MQ below (CQi D (w_Mo_best cI cJ cS q_t q_t_kindOf q_t_comes q_t_wants q_t_runs q_t_readKind q_t_readComes q_t_readWants q_t_queueNow q_t_servedAt q_t_comesWas q_t_readingOf q_t_readingAt q_t_sheetSize q_t_sheetLane q_t_sheet q_t_hands t_fault t_persons t_law t_bellSet t_readAt t_readLaw t_readMany o.2.1 o.2.2.1 o.2.2.2.1 t_readings t_whichMany t_whichOne t_whichTwo t_traceNow t_kindOf o.2.2.2.2.1 t_wants t_runs o.2.2.2.2.2.1 o.2.2.2.2.2.2) A o.1) args s 0 0 A) (F0 m 42 ls []) := by
    intro x3 x4 x5 x6 t_queueMany t_servedNow t_doneAt t_comes t_queueNow t_servedAt hM
    unfold Mo_best_l42 at hM
    obtain ⟨n0, hM⟩ := fin_some hM
    exact (L42 n0) x3 x4 x5 x6 t_queueMany t_servedNow t_doneAt t_comes t_queueNow t_servedAt hM
  unfold Mo_best at hM
  refine lv_aload_n hx hb dX9_best_0 rfl (lv_at hl 0 rfl) ?_
  refine lv_iload_n hx hb dX9_best_1 rfl (lv_at hl 1 rfl) ?_
  obtain ⟨y1, h2, hM⟩ := o_bd hM
  refine af_i (ws2 := (w_Mo_best cI cJ cS q_t q_t_kindOf q_t_comes q_t_wants q_t_runs q_t_readKind q_t_readComes q_t_readWants q_t_queueNow q_t_servedAt q_t_comesWas q_t_readingOf q_t_readingAt q_t_sheetSize q_t_sheetLane q_t_sheet q_t_hands t_fault t_persons t_law t_bellSet t_readAt t_readLaw t_readMany t_queueMany t_servedNow t_doneAt t_readings t_whichMany t_whichOne t_whichTwo t_traceNow t_kindOf t_comes t_wants t_runs t_queueNow t_servedAt)) (va_runV (As := [.int p_p]) (rest := []) ⟨hx, hb, hml, hown, hts⟩ (c_Mo_noPerson l D cI cJ cS q_t q_t_kindOf q_t_comes q_t_wants q_t_runs q_t_readKind q_t_readComes q_t_readWants q_t_queueNow q_t_servedAt q_t_comesWas q_t_readingOf q_t_readingAt q_t_sheetSize q_t_sheetLane q_t_sheet q_t_hands t_fault t_persons t_law t_bellSet t_readAt t_readLaw t_readMany t_queueMany t_servedNow t_doneAt t_readings t_whichMany t_whichOne t_whichTwo t_traceNow p_p y1 h2 _) (cwV 1 hts gX9_best_X9_noPerson rfl rfl rfl (by decide +kernel) ⟨(Nat.le_of_ble_eq_true rfl), (Nat.le_of_ble_eq_true rfl)⟩) (pre_V hK hP hD [0] rfl rfl rfl rfl) rfl rfl hl.1 rfl (lv_room (Nat.le_of_ble_eq_true rfl)) dX9_best_2 ⟨Nat.zero_le _, Nat.zero_le _⟩) hP hD hS hA [0] [1, 2, 3, 4, 5, 6] [6, 0, 1, 2, 3, 4, 5] rfl rfl rfl (by decide) rfl rfl (fun H locs hP hD hS => ?_)
  refine lv_if_eq (tgt := 10) hx hb dX9_best_5 (by decide) (fun c3 => ?_) (fun c3 => ?_)
  · have hM := (o_if hM).1 c3
    refine lv_iload_n hx hb dX9_best_10 rfl (lv_at hl 2 rfl) ?_
    refine lv_i2l (v := p_what.toInt64) hx hb dX9_best_11 rfl ?_
    refine lv_lconst (v := 0) hx hb dX9_best_12 (by decide) ?_
    refine lv_lconst (v := 1) hx hb dX9_best_13 (by decide) ?_
    obtain ⟨y4, h5, hM⟩ := o_bd hM
    refine af_i (ws2 := (w_Mo_best cI cJ cS q_t q_t_kindOf q_t_comes q_t_wants q_t_runs q_t_readKind q_t_readComes q_t_readWants q_t_queueNow q_t_servedAt q_t_comesWas q_t_readingOf q_t_readingAt q_t_sheetSize q_t_sheetLane q_t_sheet q_t_hands t_fault t_persons t_law t_bellSet t_readAt t_readLaw t_readMany t_queueMany t_servedNow t_doneAt t_readings t_whichMany t_whichOne t_whichTwo t_traceNow t_kindOf t_comes t_wants t_runs t_queueNow t_servedAt)) (va_runS (As := [.long p_what.toInt64, .long 0, .long 1]) (rest := []) ⟨hx, hb, hml, hown, hts⟩ (c_Mo_in l D cI cJ cS p_what.toInt64 0 1 y4 h5 _) (va_cwS 3 hts gX9_best_X9_in rfl rfl rfl (by decide +kernel) ⟨(Nat.le_of_ble_eq_true rfl), (Nat.le_of_ble_eq_true rfl)⟩) (pre_S hK hP hD [] rfl rfl) rfl rfl hl.1 rfl (lv_room (Nat.le_of_ble_eq_true rfl)) dX9_best_14 ⟨Nat.zero_le _, Nat.zero_le _⟩) hP hD hS hA [] [0, 1, 2, 3, 4, 5, 6] [0, 1, 2, 3, 4, 5, 6] rfl rfl rfl (by decide) rfl rfl (fun H locs hP hD hS => ?_)
    refine lv_if_ne (tgt := 23) hx hb dX9_best_17 (by decide) (fun c6 => ?_) (fun c6 => ?_)
    · have hM := (o_if hM).2 c6
      refine lv_aload_n hx hb dX9_best_23 rfl (lv_at hl 0 rfl) ?_
      refine va_get (ci := 8) (v := .ref q_t_comes) (C := RX9) (T := TX9) (N := 31) hx hb hts iX9 hown hK.1 hP 0 rfl rfl 4 (Nat.le_of_ble_eq_true rfl) k0 (fun _ h9 => h9) rfl dX9_best_24 ?_
      refine lv_iload_n hx hb dX9_best_27 rfl (lv_at hl 1 rfl) ?_
      obtain ⟨h7, hM⟩ := o_ck hM
      refine va_iald hx hb hK.1 hP 2 0 rfl rfl h7 dX9_best_28 ?_
      refine lv_topi (fun y8 ey8 => ?_)
      have hM := o_lt hM y8 ey8
      refine lv_istore_n (lv' := [(3, .int y8), (0, .ref q_t), (1, .int p_p), (2, .int p_what)]) hx hb dX9_best_29 rfl hl (Nat.le_of_ble_eq_true rfl) rfl (fun ls hl => ?_)
      refine lv_bipush (v := (-9)) hx hb dX9_best_30 (by decide) ?_
      refine lv_istore (lv' := [(4, .int (-9)), (3, .int y8), (0, .ref q_t), (1, .int p_p), (2, .int p_what)]) hx hb dX9_best_32 hl (Nat.le_of_ble_eq_true rfl) rfl (fun ls hl => ?_)
      refine lv_sipush (v := 200) hx hb dX9_best_34 (by decide) ?_
      refine lv_istore (lv' := [(5, .int 200), (4, .int (-9)), (3, .int y8), (0, .ref q_t), (1, .int p_p), (2, .int p_what)]) hx hb dX9_best_37 hl (Nat.le_of_ble_eq_true rfl) rfl (fun ls hl => ?_)
      refine lv_iconst (v := 0) hx hb dX9_best_39 (by decide) ?_
      refine lv_istore (lv' := [(6, .int 0), (5, .int 200), (4, .int (-9)), (3, .int y8), (0, .ref q_t), (1, .int p_p), (2, .int p_what)]) hx hb dX9_best_40 hl (Nat.le_of_ble_eq_true rfl) rfl (fun ls hl => ?_)
      exact J42 y8 (-9) 200 0 t_queueMany t_servedNow t_doneAt t_comes t_queueNow t_servedAt hM _ _ hP hD hS _ (lv_sub hl [4, 5, 6, 3, 2, 1, 0] rfl)
    · have hM := (o_if hM).1 c6
      refine lv_bipush (v := (-2)) hx hb dX9_best_20 (by decide) ?_
      have hM := (Option.some.inj hM)
      subst hM
      exact rt_i hx hb hr hlocks hP hD hS dX9_best_22
  · have hM := (o_if hM).2 c3
    refine lv_iconst (v := (-1)) hx hb dX9_best_8 (by decide) ?_
    have hM := (Option.some.inj hM)
    subst hM
    exact rt_i hx hb hr hlocks hP hD hS dX9_best_9
/-! ===== TurnQueueModel.settles ===== -/
abbrev w_Mo_settles (cI cJ cS : ClassId) (q_t : Nat) (q_t_kindOf : Nat) (q_t_comes : Nat) (q_t_wants : Nat) (q_t_runs : Nat) (q_t_readKind : Nat) (q_t_readComes : Nat) (q_t_readWants : Nat) (q_t_queueNow : Nat) (q_t_servedAt : Nat) (q_t_comesWas : Nat) (q_t_readingOf : Nat) (q_t_readingAt : Nat) (q_t_sheetSize : Nat) (q_t_sheetLane : Nat) (q_t_sheet : Nat) (q_t_hands : Nat) (t_fault : Int32) (t_persons : Int32) (t_law : Int32) (t_bellSet : Int64) (t_readAt : Int32) (t_readLaw : Int32) (t_readMany : Int32) (t_queueMany : Int32) (t_servedNow : Int32) (t_doneAt : Int32) (t_readings : Int32) (t_whichMany : Int32) (t_whichOne : Int32) (t_whichTwo : Int32) (t_traceNow : Int32) (t_kindOf : Nat → Int32) (t_comes : Nat → Int32) (t_wants : Nat → Int32) (t_runs : Nat → Int32) (t_queueNow : Nat → Int32) (t_servedAt : Nat → Int32) : va_W := [(q_t, .inr (8, [.int t_fault, .int t_persons, .int t_law, .ref q_t_kindOf, .ref q_t_comes, .ref q_t_wants, .ref q_t_runs, .long t_bellSet, .int t_readAt, .int t_readLaw, .int t_readMany, .ref q_t_readKind, .ref q_t_readComes, .ref q_t_readWants, .ref q_t_queueNow, .int t_queueMany, .int t_servedNow, .int t_doneAt, .ref q_t_servedAt, .ref q_t_comesWas, .int t_readings, .ref q_t_readingOf, .ref q_t_readingAt, .int t_whichMany, .int t_whichOne, .int t_whichTwo, .ref q_t_sheetSize, .ref q_t_sheetLane, .ref q_t_sheet, .ref q_t_hands, .int t_traceNow])), (q_t_kindOf, ar cI 7 t_kindOf), (q_t_comes, ar cI 7 t_comes), (q_t_wants, ar cI 7 t_wants), (q_t_runs, ar cI 7 t_runs), (q_t_queueNow, ar cI 7 t_queueNow), (q_t_servedAt, ar cI 7 t_servedAt)]
abbrev rm_Mo_settles : Room := { frames := 5, cells := 0, slots := 0, locals := 114 }
noncomputable def Mo_settles_j78 (p_p : Int32) (t_persons : Int32) (t_law : Int32) (t_bellSet : Int64) (t_kindOf : Nat → Int32) (t_wants : Nat → Int32) (t_runs : Nat → Int32) (x2 : Int32) (x4 : Int32) (t_queueMany : Int32) (t_servedNow : Int32) (t_doneAt : Int32) (t_comes : Nat → Int32) (t_queueNow : Nat → Int32) (t_servedAt : Nat → Int32) : Option (Int32 × Int32 × Int32 × Int32 × (Nat → Int32) × (Nat → Int32) × (Nat → Int32)) :=
  if ck p_p 7 = true then
    if x4 = x2 then
      some (0, t_queueMany, t_servedNow, t_doneAt, upd t_comes p_p.toNatClampNeg x4, t_queueNow, t_servedAt)
    else
      some (1, t_queueMany, t_servedNow, t_doneAt, upd t_comes p_p.toNatClampNeg x4, t_queueNow, t_servedAt)
  else none
noncomputable def Mo_settles_b26 (p_p : Int32) (t_persons : Int32) (t_law : Int32) (t_bellSet : Int64) (t_kindOf : Nat → Int32) (t_wants : Nat → Int32) (t_runs : Nat → Int32) (x2 : Int32) (x3 : Int32) (x4 : Int32) (x5 : Int32) (t_queueMany : Int32) (t_servedNow : Int32) (t_doneAt : Int32) (t_comes : Nat → Int32) (t_queueNow : Nat → Int32) (t_servedAt : Nat → Int32) : Option ((Int32 × Int32 × Int32 × Int32 × Int32 × Int32 × Int32 × (Nat → Int32) × (Nat → Int32) × (Nat → Int32)) ⊕ (Int32 × Int32 × Int32 × Int32 × (Nat → Int32) × (Nat → Int32) × (Nat → Int32))) :=
  if 60 ≤ x5 then
    ex (Mo_settles_j78 p_p t_persons t_law t_bellSet t_kindOf t_wants t_runs x2 x4 t_queueMany t_servedNow t_doneAt t_comes t_queueNow t_servedAt)
  else
    if ck p_p 7 = true then
      (Mo_goNow t_persons t_law t_bellSet t_kindOf (upd t_comes p_p.toNatClampNeg x5) t_wants t_runs t_queueMany t_servedNow t_doneAt t_queueNow t_servedAt).bind fun y11 =>
      if ck p_p 7 = true then
        if x3 ≤ ((y11.2.2.2.2 p_p.toNatClampNeg) - x5) then
          lt (x5 + 1) fun y15 =>
          some (.inl (x2, x3, x4, y15, y11.1, y11.2.1, y11.2.2.1, upd t_comes p_p.toNatClampNeg x5, y11.2.2.2.1, y11.2.2.2.2))
        else
          if ck p_p 7 = true then
            lt ((y11.2.2.2.2 p_p.toNatClampNeg) - x5) fun y17 =>
            lt (x5 + 1) fun y18 =>
            some (.inl (x2, y17, x5, y18, y11.1, y11.2.1, y11.2.2.1, upd t_comes p_p.toNatClampNeg x5, y11.2.2.2.1, y11.2.2.2.2))
          else none
      else none
    else none
noncomputable def Mo_settles_s26 (p_p : Int32) (t_persons : Int32) (t_law : Int32) (t_bellSet : Int64) (t_kindOf : Nat → Int32) (t_wants : Nat → Int32) (t_runs : Nat → Int32) : (Int32 × Int32 × Int32 × Int32 × Int32 × Int32 × Int32 × (Nat → Int32) × (Nat → Int32) × (Nat → Int32)) → Option ((Int32 × Int32 × Int32 × Int32 × Int32 × Int32 × Int32 × (Nat → Int32) × (Nat → Int32) × (Nat → Int32)) ⊕ (Int32 × Int32 × Int32 × Int32 × (Nat → Int32) × (Nat → Int32) × (Nat → Int32))) := fun x => Mo_settles_b26 p_p t_persons t_law t_bellSet t_kindOf t_wants t_runs x.1 x.2.1 x.2.2.1 x.2.2.2.1 x.2.2.2.2.1 x.2.2.2.2.2.1 x.2.2.2.2.2.2.1 x.2.2.2.2.2.2.2.1 x.2.2.2.2.2.2.2.2.1 x.2.2.2.2.2.2.2.2.2
noncomputable def Mo_settles_l26 (p_p : Int32) (t_persons : Int32) (t_law : Int32) (t_bellSet : Int64) (t_kindOf : Nat → Int32) (t_wants : Nat → Int32) (t_runs : Nat → Int32) (x2 : Int32) (x3 : Int32) (x4 : Int32) (x5 : Int32) (t_queueMany : Int32) (t_servedNow : Int32) (t_doneAt : Int32) (t_comes : Nat → Int32) (t_queueNow : Nat → Int32) (t_servedAt : Nat → Int32) : Option (Int32 × Int32 × Int32 × Int32 × (Nat → Int32) × (Nat → Int32) × (Nat → Int32)) := fin (Mo_settles_s26 p_p t_persons t_law t_bellSet t_kindOf t_wants t_runs) (x2, x3, x4, x5, t_queueMany, t_servedNow, t_doneAt, t_comes, t_queueNow, t_servedAt)
noncomputable def Mo_settles (p_p : Int32) (t_persons : Int32) (t_law : Int32) (t_bellSet : Int64) (t_kindOf : Nat → Int32) (t_wants : Nat → Int32) (t_runs : Nat → Int32) (t_queueMany : Int32) (t_servedNow : Int32) (t_doneAt : Int32) (t_comes : Nat → Int32) (t_queueNow : Nat → Int32) (t_servedAt : Nat → Int32) : Option (Int32 × Int32 × Int32 × Int32 × (Nat → Int32) × (Nat → Int32) × (Nat → Int32)) :=
  if ck p_p 7 = true then
    lt (t_comes p_p.toNatClampNeg) fun y2 =>
    (Mo_goNow t_persons t_law t_bellSet t_kindOf t_comes t_wants t_runs t_queueMany t_servedNow t_doneAt t_queueNow t_servedAt).bind fun y3 =>
    if ck p_p 7 = true then
      lt ((y3.2.2.2.2 p_p.toNatClampNeg) - y2) fun y6 =>
      Mo_settles_l26 p_p t_persons t_law t_bellSet t_kindOf t_wants t_runs y2 y6 y2 0 y3.1 y3.2.1 y3.2.2.1 t_comes y3.2.2.2.1 y3.2.2.2.2
    else none
  else none
theorem Mo_settles_l26_eq (p_p : Int32) (t_persons : Int32) (t_law : Int32) (t_bellSet : Int64) (t_kindOf : Nat → Int32) (t_wants : Nat → Int32) (t_runs : Nat → Int32) (x2 : Int32) (x3 : Int32) (x4 : Int32) (x5 : Int32) (t_queueMany : Int32) (t_servedNow : Int32) (t_doneAt : Int32) (t_comes : Nat → Int32) (t_queueNow : Nat → Int32) (t_servedAt : Nat → Int32) : Mo_settles_l26 p_p t_persons t_law t_bellSet t_kindOf t_wants t_runs x2 x3 x4 x5 t_queueMany t_servedNow t_doneAt t_comes t_queueNow t_servedAt = (Mo_settles_b26 p_p t_persons t_law t_bellSet t_kindOf t_wants t_runs x2 x3 x4 x5 t_queueMany t_servedNow t_doneAt t_comes t_queueNow t_servedAt).bind (sg (fin (Mo_settles_s26 p_p t_persons t_law t_bellSet t_kindOf t_wants t_runs))) := by
  unfold Mo_settles_l26
  exact fin_eq _ _
theorem Mo_settles_l26_fd (p_p : Int32) (t_persons : Int32) (t_law : Int32) (t_bellSet : Int64) (t_kindOf : Nat → Int32) (t_wants : Nat → Int32) (t_runs : Nat → Int32) (x2 : Int32) (x3 : Int32) (x4 : Int32) (x5 : Int32) (t_queueMany : Int32) (t_servedNow : Int32) (t_doneAt : Int32) (t_comes : Nat → Int32) (t_queueNow : Nat → Int32) (t_servedAt : Nat → Int32) : fin (Mo_settles_s26 p_p t_persons t_law t_bellSet t_kindOf t_wants t_runs) (x2, x3, x4, x5, t_queueMany, t_servedNow, t_doneAt, t_comes, t_queueNow, t_servedAt) = Mo_settles_l26 p_p t_persons t_law t_bellSet t_kindOf t_wants t_runs x2 x3 x4 x5 t_queueMany t_servedNow t_doneAt t_comes t_queueNow t_servedAt := rfl
set_option maxRecDepth 100000 in
set_option maxHeartbeats 4000000 in
theorem c_Mo_settles (l : Launch) (D : va_G) (cI cJ cS : ClassId) (q_t q_t_kindOf q_t_comes q_t_wants q_t_runs q_t_readKind q_t_readComes q_t_readWants q_t_queueNow q_t_servedAt q_t_comesWas q_t_readingOf q_t_readingAt q_t_sheetSize q_t_sheetLane q_t_sheet q_t_hands : Nat) (t_fault : Int32) (t_persons : Int32) (t_law : Int32) (t_bellSet : Int64) (t_readAt : Int32) (t_readLaw : Int32) (t_readMany : Int32) (t_queueMany : Int32) (t_servedNow : Int32) (t_doneAt : Int32) (t_readings : Int32) (t_whichMany : Int32) (t_whichOne : Int32) (t_whichTwo : Int32) (t_traceNow : Int32) (t_kindOf : Nat → Int32) (t_comes : Nat → Int32) (t_wants : Nat → Int32) (t_runs : Nat → Int32) (t_queueNow : Nat → Int32) (t_servedAt : Nat → Int32) (p_p : Int32) (o : Int32 × Int32 × Int32 × Int32 × (Nat → Int32) × (Nat → Int32) × (Nat → Int32)) (hM : Mo_settles p_p t_persons t_law t_bellSet t_kindOf t_wants t_runs t_queueMany t_servedNow t_doneAt t_comes t_queueNow t_servedAt = some o) : Ci l yX9_settles wsX9_settles rm_Mo_settles D cI cJ cS [.ref q_t, .int p_p] (w_Mo_settles cI cJ cS q_t q_t_kindOf q_t_comes q_t_wants q_t_runs q_t_readKind q_t_readComes q_t_readWants q_t_queueNow q_t_servedAt q_t_comesWas q_t_readingOf q_t_readingAt q_t_sheetSize q_t_sheetLane q_t_sheet q_t_hands t_fault t_persons t_law t_bellSet t_readAt t_readLaw t_readMany t_queueMany t_servedNow t_doneAt t_readings t_whichMany t_whichOne t_whichTwo t_traceNow t_kindOf t_comes t_wants t_runs t_queueNow t_servedAt) (w_Mo_settles cI cJ cS q_t q_t_kindOf q_t_comes q_t_wants q_t_runs q_t_readKind q_t_readComes q_t_readWants q_t_queueNow q_t_servedAt q_t_comesWas q_t_readingOf q_t_readingAt q_t_sheetSize q_t_sheetLane q_t_sheet q_t_hands t_fault t_persons t_law t_bellSet t_readAt t_readLaw t_readMany o.2.1 o.2.2.1 o.2.2.2.1 t_readings t_whichMany t_whichOne t_whichTwo t_traceNow t_kindOf o.2.2.2.2.1 t_wants t_runs o.2.2.2.2.2.1 o.2.2.2.2.2.2) o.1 := by
  refine Ci.of (cc := cX9_settles) (maxL := 6) (ret := (some .boolean)) (by decide) rfl (Nat.le_of_ble_eq_true rfl) ?_
  intro p e s m args below meth c A ls hE
  obtain ⟨hx, hb, hr, hml, hown, hts, hlocks, hK, hA, hP, hD, hS, hl⟩ := hE
  have hown : s.vm.findClass RX9 = some m.cls := hown
  have hl : lv_has ls 6 [(0, .ref q_t), (1, .int p_p)] := hl
  have iX9 : ∀ w ∈ u_ws RX9 TX9 31, w ∈ wsX9_settles := by decide +kernel
  have k0 := hts (.fieldLink RX9 13 "TurnQueueModel" "comes" "[I") (by decide +kernel)
  have k1 := hts (.fieldLink RX9 34 "TurnQueueModel" "servedAt" "[I") (by decide +kernel)
  have J78 : ∀ (x2 : Int32) (x4 : Int32) (t_queueMany : Int32) (t_servedNow : Int32) (t_doneAt : Int32) (t_comes : Nat → Int32) (t_queueNow : Nat → Int32) (t_servedAt : Nat → Int32), Mo_settles_j78 p_p t_persons t_law t_bellSet t_kindOf t_wants t_runs x2 x4 t_queueMany t_servedNow t_doneAt t_comes t_queueNow t_servedAt = some o → ∀ (H : Heap) (locs : List Loc), va_P D vwCl (w_Mo_settles cI cJ cS q_t q_t_kindOf q_t_comes q_t_wants q_t_runs q_t_readKind q_t_readComes q_t_readWants q_t_queueNow q_t_servedAt q_t_comesWas q_t_readingOf q_t_readingAt q_t_sheetSize q_t_sheetLane q_t_sheet q_t_hands t_fault t_persons t_law t_bellSet t_readAt t_readLaw t_readMany t_queueMany t_servedNow t_doneAt t_readings t_whichMany t_whichOne t_whichTwo t_traceNow t_kindOf t_comes t_wants t_runs t_queueNow t_servedAt) H → va_D A (w_Mo_settles cI cJ cS q_t q_t_kindOf q_t_comes q_t_wants q_t_runs q_t_readKind q_t_readComes q_t_readWants q_t_queueNow q_t_servedAt q_t_comesWas q_t_readingOf q_t_readingAt q_t_sheetSize q_t_sheetLane q_t_sheet q_t_hands t_fault t_persons t_law t_bellSet t_readAt t_readLaw t_readMany t_queueMany t_servedNow t_doneAt t_readings t_whichMany t_whichOne t_whichTwo t_traceNow t_kindOf t_comes t_wants t_runs t_queueNow t_servedAt) → va_S A s.heap H locs → ∀ ls : Array Slot, lv_has ls 6 [(0, .ref q_t), (1, .int p_p), (2, .int x2), (4, .int x4)] → W p l e (headSpec wsX9_settles rm_Mo_settles).room s m args below meth c H locs 0 0 (MQ below (CQi D (w_Mo_settles cI cJ cS q_t q_t_kindOf q_t_comes q_t_wants q_t_runs q_t_readKind q_t_readComes q_t_readWants q_t_queueNow q_t_servedAt q_t_comesWas q_t_readingOf q_t_readingAt q_t_sheetSize q_t_sheetLane q_t_sheet q_t_hands t_fault t_persons t_law t_bellSet t_readAt t_readLaw t_readMany o.2.1 o.2.2.1 o.2.2.2.1 t_readings t_whichMany t_whichOne t_whichTwo t_traceNow t_kindOf o.2.2.2.2.1 t_wants t_runs o.2.2.2.2.2.1 o.2.2.2.2.2.2) A o.1) args s 0 0 A) (F0 m 78 ls []) := by
    intro x2 x4 t_queueMany t_servedNow t_doneAt t_comes t_queueNow t_servedAt hM H locs hP hD hS ls hl
    unfold Mo_settles_j78 at hM
    refine lv_aload_n hx hb dX9_settles_78 rfl (lv_at hl 0 rfl) ?_
    refine va_get (ci := 8) (v := .ref q_t_comes) (C := RX9) (T := TX9) (N := 31) hx hb hts iX9 hown hK.1 hP 0 rfl rfl 4 (Nat.le_of_ble_eq_true rfl) k0 (fun _ h9 => h9) rfl dX9_settles_79 ?_
    refine lv_iload_n hx hb dX9_settles_82 rfl (lv_at hl 1 rfl) ?_
    refine lv_iload hx hb dX9_settles_83 (lv_at hl 3 rfl) ?_
    obtain ⟨h8, hM⟩ := o_ck hM
    refine va_iast hx hb hK.1 hP hD hS 2 0 rfl rfl h8 dX9_settles_85 (fun H locs hP hD hS => ?_)
    have hP : va_P D vwCl (w_Mo_settles cI cJ cS q_t q_t_kindOf q_t_comes q_t_wants q_t_runs q_t_readKind q_t_readComes q_t_readWants q_t_queueNow q_t_servedAt q_t_comesWas q_t_readingOf q_t_readingAt q_t_sheetSize q_t_sheetLane q_t_sheet q_t_hands t_fault t_persons t_law t_bellSet t_readAt t_readLaw t_readMany t_queueMany t_servedNow t_doneAt t_readings t_whichMany t_whichOne t_whichTwo t_traceNow t_kindOf (upd t_comes p_p.toNatClampNeg x4) t_wants t_runs t_queueNow t_servedAt) H := hP
    have hD : va_D A (w_Mo_settles cI cJ cS q_t q_t_kindOf q_t_comes q_t_wants q_t_runs q_t_readKind q_t_readComes q_t_readWants q_t_queueNow q_t_servedAt q_t_comesWas q_t_readingOf q_t_readingAt q_t_sheetSize q_t_sheetLane q_t_sheet q_t_hands t_fault t_persons t_law t_bellSet t_readAt t_readLaw t_readMany t_queueMany t_servedNow t_doneAt t_readings t_whichMany t_whichOne t_whichTwo t_traceNow t_kindOf (upd t_comes p_p.toNatClampNeg x4) t_wants t_runs t_queueNow t_servedAt) := hD
    refine lv_iload hx hb dX9_settles_86 (lv_at hl 3 rfl) ?_
    refine lv_iload_n hx hb dX9_settles_88 rfl (lv_at hl 2 rfl) ?_
    refine lv_icmp_eq (tgt := 96) hx hb dX9_settles_89 (by decide) (fun c9 => ?_) (fun c9 => ?_)
    · have hM := (o_if hM).1 c9
      refine lv_iconst (v := 0) hx hb dX9_settles_96 (by decide) ?_
      have hM := (Option.some.inj hM)
      subst hM
      exact rt_z hx hb hr hlocks hP hD hS (show narrow .boolean (.int 0) = .int 0 from rfl) dX9_settles_97
    · have hM := (o_if hM).2 c9
      refine lv_iconst (v := 1) hx hb dX9_settles_92 (by decide) ?_
      refine lv_goto (tgt := 97) hx hb dX9_settles_93 (by decide) ?_
      have hM := (Option.some.inj hM)
      subst hM
      exact rt_z hx hb hr hlocks hP hD hS (show narrow .boolean (.int 1) = .int 1 from rfl) dX9_settles_97
  have L26 : ∀ n : Nat, (∀ (x2 : Int32) (x3 : Int32) (x4 : Int32) (x5 : Int32) (t_queueMany : Int32) (t_servedNow : Int32) (t_doneAt : Int32) (t_comes : Nat → Int32) (t_queueNow : Nat → Int32) (t_servedAt : Nat → Int32), itr (Mo_settles_s26 p_p t_persons t_law t_bellSet t_kindOf t_wants t_runs) n (x2, x3, x4, x5, t_queueMany, t_servedNow, t_doneAt, t_comes, t_queueNow, t_servedAt) = some o → ∀ (H : Heap) (locs : List Loc), va_P D vwCl (w_Mo_settles cI cJ cS q_t q_t_kindOf q_t_comes q_t_wants q_t_runs q_t_readKind q_t_readComes q_t_readWants q_t_queueNow q_t_servedAt q_t_comesWas q_t_readingOf q_t_readingAt q_t_sheetSize q_t_sheetLane q_t_sheet q_t_hands t_fault t_persons t_law t_bellSet t_readAt t_readLaw t_readMany t_queueMany t_servedNow t_doneAt t_readings t_whichMany t_whichOne t_whichTwo t_traceNow t_kindOf t_comes t_wants t_runs t_queueNow t_servedAt) H → va_D A (w_Mo_settles cI cJ cS q_t q_t_kindOf q_t_comes q_t_wants q_t_runs q_t_readKind q_t_readComes q_t_readWants q_t_queueNow q_t_servedAt q_t_comesWas q_t_readingOf q_t_readingAt q_t_sheetSize q_t_sheetLane q_t_sheet q_t_hands t_fault t_persons t_law t_bellSet t_readAt t_readLaw t_readMany t_queueMany t_servedNow t_doneAt t_readings t_whichMany t_whichOne t_whichTwo t_traceNow t_kindOf t_comes t_wants t_runs t_queueNow t_servedAt) → va_S A s.heap H locs → ∀ ls : Array Slot, lv_has ls 6 [(0, .ref q_t), (1, .int p_p), (2, .int x2), (3, .int x3), (4, .int x4), (5, .int x5)] → W p l e (headSpec wsX9_settles rm_Mo_settles).room s m args below meth c H locs 0 0 (MQ below (CQi D (w_Mo_settles cI cJ cS q_t q_t_kindOf q_t_comes q_t_wants q_t_runs q_t_readKind q_t_readComes q_t_readWants q_t_queueNow q_t_servedAt q_t_comesWas q_t_readingOf q_t_readingAt q_t_sheetSize q_t_sheetLane q_t_sheet q_t_hands t_fault t_persons t_law t_bellSet t_readAt t_readLaw t_readMany o.2.1 o.2.2.1 o.2.2.2.1 t_readings t_whichMany t_whichOne t_whichTwo t_traceNow t_kindOf o.2.2.2.2.1 t_wants t_runs o.2.2.2.2.2.1 o.2.2.2.2.2.2) A o.1) args s 0 0 A) (F0 m 26 ls [])) := by
    intro n
    induction n with
    | zero => exact fun _ _ _ _ _ _ _ _ _ _ hM => (itr_0 hM).elim
    | succ n ih =>
      intro x2 x3 x4 x5 t_queueMany t_servedNow t_doneAt t_comes t_queueNow t_servedAt hM H locs hP hD hS ls hl
      have hM : (Mo_settles_b26 p_p t_persons t_law t_bellSet t_kindOf t_wants t_runs x2 x3 x4 x5 t_queueMany t_servedNow t_doneAt t_comes t_queueNow t_servedAt).bind (sg (itr (Mo_settles_s26 p_p t_persons t_law t_bellSet t_kindOf t_wants t_runs) n)) = some o := hM
      unfold Mo_settles_b26 at hM
      refine lv_iload hx hb dX9_settles_26 (lv_at hl 5 rfl) ?_
      refine lv_bipush (v := 60) hx hb dX9_settles_28 (by decide) ?_
      refine lv_icmp_ge (tgt := 78) hx hb dX9_settles_30 (by decide) (fun c7 => ?_) (fun c7 => ?_)
      · have hM := (s_if hM).1 c7
        exact J78 x2 x4 t_queueMany t_servedNow t_doneAt t_comes t_queueNow t_servedAt (s_ex hM) _ _ hP hD hS _ (lv_sub hl [0, 1, 2, 4] rfl)
      · have hM := (s_if hM).2 c7
        refine lv_aload_n hx hb dX9_settles_33 rfl (lv_at hl 0 rfl) ?_
        refine va_get (ci := 8) (v := .ref q_t_comes) (C := RX9) (T := TX9) (N := 31) hx hb hts iX9 hown hK.1 hP 0 rfl rfl 4 (Nat.le_of_ble_eq_true rfl) k0 (fun _ h9 => h9) rfl dX9_settles_34 ?_
        refine lv_iload_n hx hb dX9_settles_37 rfl (lv_at hl 1 rfl) ?_
        refine lv_iload hx hb dX9_settles_38 (lv_at hl 5 rfl) ?_
        obtain ⟨h10, hM⟩ := s_ck hM
        refine va_iast hx hb hK.1 hP hD hS 2 0 rfl rfl h10 dX9_settles_40 (fun H locs hP hD hS => ?_)
        have hP : va_P D vwCl (w_Mo_settles cI cJ cS q_t q_t_kindOf q_t_comes q_t_wants q_t_runs q_t_readKind q_t_readComes q_t_readWants q_t_queueNow q_t_servedAt q_t_comesWas q_t_readingOf q_t_readingAt q_t_sheetSize q_t_sheetLane q_t_sheet q_t_hands t_fault t_persons t_law t_bellSet t_readAt t_readLaw t_readMany t_queueMany t_servedNow t_doneAt t_readings t_whichMany t_whichOne t_whichTwo t_traceNow t_kindOf (upd t_comes p_p.toNatClampNeg x5) t_wants t_runs t_queueNow t_servedAt) H := hP
        have hD : va_D A (w_Mo_settles cI cJ cS q_t q_t_kindOf q_t_comes q_t_wants q_t_runs q_t_readKind q_t_readComes q_t_readWants q_t_queueNow q_t_servedAt q_t_comesWas q_t_readingOf q_t_readingAt q_t_sheetSize q_t_sheetLane q_t_sheet q_t_hands t_fault t_persons t_law t_bellSet t_readAt t_readLaw t_readMany t_queueMany t_servedNow t_doneAt t_readings t_whichMany t_whichOne t_whichTwo t_traceNow t_kindOf (upd t_comes p_p.toNatClampNeg x5) t_wants t_runs t_queueNow t_servedAt) := hD
        refine lv_aload_n hx hb dX9_settles_41 rfl (lv_at hl 0 rfl) ?_
        obtain ⟨y11, h12, hM⟩ := s_bd hM
        refine af_v (ws2 := (w_Mo_settles cI cJ cS q_t q_t_kindOf q_t_comes q_t_wants q_t_runs q_t_readKind q_t_readComes q_t_readWants q_t_queueNow q_t_servedAt q_t_comesWas q_t_readingOf q_t_readingAt q_t_sheetSize q_t_sheetLane q_t_sheet q_t_hands t_fault t_persons t_law t_bellSet t_readAt t_readLaw t_readMany y11.1 y11.2.1 y11.2.2.1 t_readings t_whichMany t_whichOne t_whichTwo t_traceNow t_kindOf (upd t_comes p_p.toNatClampNeg x5) t_wants t_runs y11.2.2.2.1 y11.2.2.2.2)) (va_runV (As := []) (rest := []) ⟨hx, hb, hml, hown, hts⟩ (c_Mo_goNow l D cI cJ cS q_t q_t_kindOf q_t_comes q_t_wants q_t_runs q_t_readKind q_t_readComes q_t_readWants q_t_queueNow q_t_servedAt q_t_comesWas q_t_readingOf q_t_readingAt q_t_sheetSize q_t_sheetLane q_t_sheet q_t_hands t_fault t_persons t_law t_bellSet t_readAt t_readLaw t_readMany t_queueMany t_servedNow t_doneAt t_readings t_whichMany t_whichOne t_whichTwo t_traceNow t_kindOf (upd t_comes p_p.toNatClampNeg x5) t_wants t_runs t_queueNow t_servedAt y11 h12 _) (cwV 0 hts gX9_settles_X9_goNow rfl rfl rfl (by decide +kernel) ⟨(Nat.le_of_ble_eq_true rfl), (Nat.le_of_ble_eq_true rfl)⟩) (pre_V hK hP hD [0, 1, 2, 3, 4, 5, 6] rfl rfl rfl rfl) rfl rfl hl.1 rfl (lv_room (Nat.le_of_ble_eq_true rfl)) dX9_settles_42 ⟨Nat.zero_le _, Nat.zero_le _⟩) hP hD hS hA [0, 1, 2, 3, 4, 5, 6] [] [0, 1, 2, 3, 4, 5, 6] rfl rfl rfl (by decide) rfl rfl (fun H locs hP hD hS => ?_)
        refine lv_aload_n hx hb dX9_settles_45 rfl (lv_at hl 0 rfl) ?_
        refine va_get (ci := 8) (v := .ref q_t_servedAt) (C := RX9) (T := TX9) (N := 31) hx hb hts iX9 hown hK.1 hP 0 rfl rfl 18 (Nat.le_of_ble_eq_true rfl) k1 (fun _ h9 => h9) rfl dX9_settles_46 ?_
        refine lv_iload_n hx hb dX9_settles_49 rfl (lv_at hl 1 rfl) ?_
        obtain ⟨h13, hM⟩ := s_ck hM
        refine va_iald hx hb hK.1 hP 6 0 rfl rfl h13 dX9_settles_50 ?_
        refine lv_iload hx hb dX9_settles_51 (lv_at hl 5 rfl) ?_
        refine lv_isub hx hb dX9_settles_53 ?_
        refine lv_iload_n hx hb dX9_settles_54 rfl (lv_at hl 3 rfl) ?_
        refine lv_icmp_ge (tgt := 72) hx hb dX9_settles_55 (by decide) (fun c14 => ?_) (fun c14 => ?_)
        · have hM := (s_if hM).1 c14
          obtain ⟨y15, ey15⟩ : ∃ y : Int32, y = x5 + 1 := ⟨_, rfl⟩
          have hM := s_lt hM y15 ey15
          refine lv_iinc (v := y15) (lv' := [(5, .int y15), (0, .ref q_t), (1, .int p_p), (2, .int x2), (3, .int x3), (4, .int x4)]) hx hb dX9_settles_72 hl (k := 5) rfl (by rw [ey15]; rfl) (Nat.le_of_ble_eq_true rfl) rfl (fun ls hl => ?_)
          refine lv_goto (tgt := 26) hx hb dX9_settles_75 (by decide) ?_
          exact ih x2 x3 x4 y15 y11.1 y11.2.1 y11.2.2.1 (upd t_comes p_p.toNatClampNeg x5) y11.2.2.2.1 y11.2.2.2.2 (s_jp hM) _ _ hP hD hS _ (lv_sub hl [1, 2, 3, 4, 5, 0] rfl)
        · have hM := (s_if hM).2 c14
          refine lv_iload hx hb dX9_settles_58 (lv_at hl 5 rfl) ?_
          refine lv_istore (lv' := [(4, .int x5), (0, .ref q_t), (1, .int p_p), (2, .int x2), (3, .int x3), (5, .int x5)]) hx hb dX9_settles_60 hl (Nat.le_of_ble_eq_true rfl) rfl (fun ls hl => ?_)
          refine lv_aload_n hx hb dX9_settles_62 rfl (lv_at hl 1 rfl) ?_
          refine va_get (ci := 8) (v := .ref q_t_servedAt) (C := RX9) (T := TX9) (N := 31) hx hb hts iX9 hown hK.1 hP 0 rfl rfl 18 (Nat.le_of_ble_eq_true rfl) k1 (fun _ h9 => h9) rfl dX9_settles_63 ?_
          refine lv_iload_n hx hb dX9_settles_66 rfl (lv_at hl 2 rfl) ?_
          obtain ⟨h16, hM⟩ := s_ck hM
          refine va_iald hx hb hK.1 hP 6 0 rfl rfl h16 dX9_settles_67 ?_
          refine lv_iload hx hb dX9_settles_68 (lv_at hl 5 rfl) ?_
          refine lv_isub hx hb dX9_settles_70 ?_
          refine lv_topi (fun y17 ey17 => ?_)
          have hM := s_lt hM y17 ey17
          refine lv_istore_n (lv' := [(3, .int y17), (4, .int x5), (0, .ref q_t), (1, .int p_p), (2, .int x2), (5, .int x5)]) hx hb dX9_settles_71 rfl hl (Nat.le_of_ble_eq_true rfl) rfl (fun ls hl => ?_)
          obtain ⟨y18, ey18⟩ : ∃ y : Int32, y = x5 + 1 := ⟨_, rfl⟩
          have hM := s_lt hM y18 ey18
          refine lv_iinc (v := y18) (lv' := [(5, .int y18), (3, .int y17), (4, .int x5), (0, .ref q_t), (1, .int p_p), (2, .int x2)]) hx hb dX9_settles_72 hl (k := 5) rfl (by rw [ey18]; rfl) (Nat.le_of_ble_eq_true rfl) rfl (fun ls hl => ?_)
          refine lv_goto (tgt := 26) hx hb dX9_settles_75 (by decide) ?_
          exact ih x2 y17 x5 y18 y11.1 y11.2.1 y11.2.2.1 (upd t_comes p_p.toNatClampNeg x5) y11.2.2.2.1 y11.2.2.2.2 (s_jp hM) _ _ hP hD hS _ (lv_sub hl [3, 4, 5, 1, 2, 0] rfl)
  have J26 : ∀ (x2 : Int32) (x3 : Int32) (x4 : Int32) (x5 : Int32) (t_queueMany : Int32) (t_servedNow : Int32) (t_doneAt : Int32) (t_comes : Nat → Int32) (t_queueNow : Nat → Int32) (t_servedAt : Nat → Int32), Mo_settles_l26 p_p t_persons t_law t_bellSet t_kindOf t_wants t_runs x2 x3 x4 x5 t_queueMany t_servedNow t_doneAt t_comes t_queueNow t_servedAt = some o → ∀ (H : Heap) (locs : List Loc), va_P D vwCl (w_Mo_settles cI cJ cS q_t q_t_kindOf q_t_comes q_t_wants q_t_runs q_t_readKind q_t_readComes q_t_readWants q_t_queueNow q_t_servedAt q_t_comesWas q_t_readingOf q_t_readingAt q_t_sheetSize q_t_sheetLane q_t_sheet q_t_hands t_fault t_persons t_law t_bellSet t_readAt t_readLaw t_readMany t_queueMany t_servedNow t_doneAt t_readings t_whichMany t_whichOne t_whichTwo t_traceNow t_kindOf t_comes t_wants t_runs t_queueNow t_servedAt) H → va_D A (w_Mo_settles cI cJ cS q_t q_t_kindOf q_t_comes q_t_wants q_t_runs q_t_readKind q_t_readComes q_t_readWants q_t_queueNow q_t_servedAt q_t_comesWas q_t_readingOf q_t_readingAt q_t_sheetSize q_t_sheetLane q_t_sheet q_t_hands t_fault t_persons t_law t_bellSet t_readAt t_readLaw t_readMany t_queueMany t_servedNow t_doneAt t_readings t_whichMany t_whichOne t_whichTwo t_traceNow t_kindOf t_comes t_wants t_runs t_queueNow t_servedAt) → va_S A s.heap H locs → ∀ ls : Array Slot, lv_has ls 6 [(0, .ref q_t), (1, .int p_p), (2, .int x2), (3, .int x3), (4, .int x4), (5, .int x5)] → W p l e (headSpec wsX9_settles rm_Mo_settles).room s m args below meth c H locs 0 0 (MQ below (CQi D (w_Mo_settles cI cJ cS q_t q_t_kindOf q_t_comes q_t_wants q_t_runs q_t_readKind q_t_readComes q_t_readWants q_t_queueNow q_t_servedAt q_t_comesWas q_t_readingOf q_t_readingAt q_t_sheetSize q_t_sheetLane q_t_sheet q_t_hands t_fault t_persons t_law t_bellSet t_readAt t_readLaw t_readMany o.2.1 o.2.2.1 o.2.2.2.1 t_readings t_whichMany t_whichOne t_whichTwo t_traceNow t_kindOf o.2.2.2.2.1 t_wants t_runs o.2.2.2.2.2.1 o.2.2.2.2.2.2) A o.1) args s 0 0 A) (F0 m 26 ls []) := by
    intro x2 x3 x4 x5 t_queueMany t_servedNow t_doneAt t_comes t_queueNow t_servedAt hM
    unfold Mo_settles_l26 at hM
    obtain ⟨n0, hM⟩ := fin_some hM
    exact (L26 n0) x2 x3 x4 x5 t_queueMany t_servedNow t_doneAt t_comes t_queueNow t_servedAt hM
  unfold Mo_settles at hM
  refine lv_aload_n hx hb dX9_settles_0 rfl (lv_at hl 0 rfl) ?_
  refine va_get (ci := 8) (v := .ref q_t_comes) (C := RX9) (T := TX9) (N := 31) hx hb hts iX9 hown hK.1 hP 0 rfl rfl 4 (Nat.le_of_ble_eq_true rfl) k0 (fun _ h9 => h9) rfl dX9_settles_1 ?_
  refine lv_iload_n hx hb dX9_settles_4 rfl (lv_at hl 1 rfl) ?_
  obtain ⟨h1, hM⟩ := o_ck hM
  refine va_iald hx hb hK.1 hP 2 0 rfl rfl h1 dX9_settles_5 ?_
  refine lv_topi (fun y2 ey2 => ?_)
  have hM := o_lt hM y2 ey2
  refine lv_istore_n (lv' := [(2, .int y2), (0, .ref q_t), (1, .int p_p)]) hx hb dX9_settles_6 rfl hl (Nat.le_of_ble_eq_true rfl) rfl (fun ls hl => ?_)
  refine lv_aload_n hx hb dX9_settles_7 rfl (lv_at hl 1 rfl) ?_
  obtain ⟨y3, h4, hM⟩ := o_bd hM
  refine af_v (ws2 := (w_Mo_settles cI cJ cS q_t q_t_kindOf q_t_comes q_t_wants q_t_runs q_t_readKind q_t_readComes q_t_readWants q_t_queueNow q_t_servedAt q_t_comesWas q_t_readingOf q_t_readingAt q_t_sheetSize q_t_sheetLane q_t_sheet q_t_hands t_fault t_persons t_law t_bellSet t_readAt t_readLaw t_readMany y3.1 y3.2.1 y3.2.2.1 t_readings t_whichMany t_whichOne t_whichTwo t_traceNow t_kindOf t_comes t_wants t_runs y3.2.2.2.1 y3.2.2.2.2)) (va_runV (As := []) (rest := []) ⟨hx, hb, hml, hown, hts⟩ (c_Mo_goNow l D cI cJ cS q_t q_t_kindOf q_t_comes q_t_wants q_t_runs q_t_readKind q_t_readComes q_t_readWants q_t_queueNow q_t_servedAt q_t_comesWas q_t_readingOf q_t_readingAt q_t_sheetSize q_t_sheetLane q_t_sheet q_t_hands t_fault t_persons t_law t_bellSet t_readAt t_readLaw t_readMany t_queueMany t_servedNow t_doneAt t_readings t_whichMany t_whichOne t_whichTwo t_traceNow t_kindOf t_comes t_wants t_runs t_queueNow t_servedAt y3 h4 _) (cwV 0 hts gX9_settles_X9_goNow rfl rfl rfl (by decide +kernel) ⟨(Nat.le_of_ble_eq_true rfl), (Nat.le_of_ble_eq_true rfl)⟩) (pre_V hK hP hD [0, 1, 2, 3, 4, 5, 6] rfl rfl rfl rfl) rfl rfl hl.1 rfl (lv_room (Nat.le_of_ble_eq_true rfl)) dX9_settles_8 ⟨Nat.zero_le _, Nat.zero_le _⟩) hP hD hS hA [0, 1, 2, 3, 4, 5, 6] [] [0, 1, 2, 3, 4, 5, 6] rfl rfl rfl (by decide) rfl rfl (fun H locs hP hD hS => ?_)
  refine lv_aload_n hx hb dX9_settles_11 rfl (lv_at hl 1 rfl) ?_
  refine va_get (ci := 8) (v := .ref q_t_servedAt) (C := RX9) (T := TX9) (N := 31) hx hb hts iX9 hown hK.1 hP 0 rfl rfl 18 (Nat.le_of_ble_eq_true rfl) k1 (fun _ h9 => h9) rfl dX9_settles_12 ?_
  refine lv_iload_n hx hb dX9_settles_15 rfl (lv_at hl 2 rfl) ?_
  obtain ⟨h5, hM⟩ := o_ck hM
  refine va_iald hx hb hK.1 hP 6 0 rfl rfl h5 dX9_settles_16 ?_
  refine lv_iload_n hx hb dX9_settles_17 rfl (lv_at hl 0 rfl) ?_
  refine lv_isub hx hb dX9_settles_18 ?_
  refine lv_topi (fun y6 ey6 => ?_)
  have hM := o_lt hM y6 ey6
  refine lv_istore_n (lv' := [(3, .int y6), (2, .int y2), (0, .ref q_t), (1, .int p_p)]) hx hb dX9_settles_19 rfl hl (Nat.le_of_ble_eq_true rfl) rfl (fun ls hl => ?_)
  refine lv_iload_n hx hb dX9_settles_20 rfl (lv_at hl 1 rfl) ?_
  refine lv_istore (lv' := [(4, .int y2), (3, .int y6), (2, .int y2), (0, .ref q_t), (1, .int p_p)]) hx hb dX9_settles_21 hl (Nat.le_of_ble_eq_true rfl) rfl (fun ls hl => ?_)
  refine lv_iconst (v := 0) hx hb dX9_settles_23 (by decide) ?_
  refine lv_istore (lv' := [(5, .int 0), (4, .int y2), (3, .int y6), (2, .int y2), (0, .ref q_t), (1, .int p_p)]) hx hb dX9_settles_24 hl (Nat.le_of_ble_eq_true rfl) rfl (fun ls hl => ?_)
  exact J26 y2 y6 y2 0 y3.1 y3.2.1 y3.2.2.1 t_comes y3.2.2.2.1 y3.2.2.2.2 hM _ _ hP hD hS _ (lv_sub hl [4, 5, 3, 2, 1, 0] rfl)
/-! ===== TurnQueueModel.calm ===== -/
abbrev w_Mo_calm (cI cJ cS : ClassId) (q_t : Nat) (q_t_kindOf : Nat) (q_t_comes : Nat) (q_t_wants : Nat) (q_t_runs : Nat) (q_t_readKind : Nat) (q_t_readComes : Nat) (q_t_readWants : Nat) (q_t_queueNow : Nat) (q_t_servedAt : Nat) (q_t_comesWas : Nat) (q_t_readingOf : Nat) (q_t_readingAt : Nat) (q_t_sheetSize : Nat) (q_t_sheetLane : Nat) (q_t_sheet : Nat) (q_t_hands : Nat) (t_fault : Int32) (t_persons : Int32) (t_law : Int32) (t_bellSet : Int64) (t_readAt : Int32) (t_readLaw : Int32) (t_readMany : Int32) (t_queueMany : Int32) (t_servedNow : Int32) (t_doneAt : Int32) (t_readings : Int32) (t_whichMany : Int32) (t_whichOne : Int32) (t_whichTwo : Int32) (t_traceNow : Int32) (t_kindOf : Nat → Int32) (t_comes : Nat → Int32) (t_wants : Nat → Int32) (t_runs : Nat → Int32) (t_queueNow : Nat → Int32) (t_servedAt : Nat → Int32) (t_comesWas : Nat → Int32) : va_W := [(q_t, .inr (8, [.int t_fault, .int t_persons, .int t_law, .ref q_t_kindOf, .ref q_t_comes, .ref q_t_wants, .ref q_t_runs, .long t_bellSet, .int t_readAt, .int t_readLaw, .int t_readMany, .ref q_t_readKind, .ref q_t_readComes, .ref q_t_readWants, .ref q_t_queueNow, .int t_queueMany, .int t_servedNow, .int t_doneAt, .ref q_t_servedAt, .ref q_t_comesWas, .int t_readings, .ref q_t_readingOf, .ref q_t_readingAt, .int t_whichMany, .int t_whichOne, .int t_whichTwo, .ref q_t_sheetSize, .ref q_t_sheetLane, .ref q_t_sheet, .ref q_t_hands, .int t_traceNow])), (q_t_kindOf, ar cI 7 t_kindOf), (q_t_comes, ar cI 7 t_comes), (q_t_wants, ar cI 7 t_wants), (q_t_runs, ar cI 7 t_runs), (q_t_queueNow, ar cI 7 t_queueNow), (q_t_servedAt, ar cI 7 t_servedAt), (q_t_comesWas, ar cI 7 t_comesWas)]
abbrev rm_Mo_calm : Room := { frames := 6, cells := 0, slots := 0, locals := 139 }
noncomputable def Mo_calm_b150 (p_p : Int32) (t_persons : Int32) (t_law : Int32) (t_bellSet : Int64) (t_kindOf : Nat → Int32) (t_wants : Nat → Int32) (t_runs : Nat → Int32) (x3 : Int32) (x4 : Int32) (t_queueMany : Int32) (t_servedNow : Int32) (t_doneAt : Int32) (t_comes : Nat → Int32) (t_queueNow : Nat → Int32) (t_servedAt : Nat → Int32) (t_comesWas : Nat → Int32) : Option ((Int32 × Int32 × Int32 × Int32 × Int32 × (Nat → Int32) × (Nat → Int32) × (Nat → Int32) × (Nat → Int32)) ⊕ (Int32 × Int32 × Int32 × Int32 × (Nat → Int32) × (Nat → Int32) × (Nat → Int32) × (Nat → Int32))) :=
  if t_persons ≤ x4 then
    some (.inr (x3, t_queueMany, t_servedNow, t_doneAt, t_comes, t_queueNow, t_servedAt, t_comesWas))
  else
    if ck x4 7 = true then
      lt (t_comesWas x4.toNatClampNeg) fun y11 =>
      if ck x4 7 = true then
        lt (x4 + 1) fun y13 =>
        some (.inl (x3, y13, t_queueMany, t_servedNow, t_doneAt, upd t_comes x4.toNatClampNeg y11, t_queueNow, t_servedAt, t_comesWas))
      else none
    else none
noncomputable def Mo_calm_s150 (p_p : Int32) (t_persons : Int32) (t_law : Int32) (t_bellSet : Int64) (t_kindOf : Nat → Int32) (t_wants : Nat → Int32) (t_runs : Nat → Int32) : (Int32 × Int32 × Int32 × Int32 × Int32 × (Nat → Int32) × (Nat → Int32) × (Nat → Int32) × (Nat → Int32)) → Option ((Int32 × Int32 × Int32 × Int32 × Int32 × (Nat → Int32) × (Nat → Int32) × (Nat → Int32) × (Nat → Int32)) ⊕ (Int32 × Int32 × Int32 × Int32 × (Nat → Int32) × (Nat → Int32) × (Nat → Int32) × (Nat → Int32))) := fun x => Mo_calm_b150 p_p t_persons t_law t_bellSet t_kindOf t_wants t_runs x.1 x.2.1 x.2.2.1 x.2.2.2.1 x.2.2.2.2.1 x.2.2.2.2.2.1 x.2.2.2.2.2.2.1 x.2.2.2.2.2.2.2.1 x.2.2.2.2.2.2.2.2
noncomputable def Mo_calm_l150 (p_p : Int32) (t_persons : Int32) (t_law : Int32) (t_bellSet : Int64) (t_kindOf : Nat → Int32) (t_wants : Nat → Int32) (t_runs : Nat → Int32) (x3 : Int32) (x4 : Int32) (t_queueMany : Int32) (t_servedNow : Int32) (t_doneAt : Int32) (t_comes : Nat → Int32) (t_queueNow : Nat → Int32) (t_servedAt : Nat → Int32) (t_comesWas : Nat → Int32) : Option (Int32 × Int32 × Int32 × Int32 × (Nat → Int32) × (Nat → Int32) × (Nat → Int32) × (Nat → Int32)) := fin (Mo_calm_s150 p_p t_persons t_law t_bellSet t_kindOf t_wants t_runs) (x3, x4, t_queueMany, t_servedNow, t_doneAt, t_comes, t_queueNow, t_servedAt, t_comesWas)
noncomputable def Mo_calm_j132 (p_p : Int32) (t_persons : Int32) (t_law : Int32) (t_bellSet : Int64) (t_kindOf : Nat → Int32) (t_wants : Nat → Int32) (t_runs : Nat → Int32) (x2 : Int32) (t_queueMany : Int32) (t_servedNow : Int32) (t_doneAt : Int32) (t_comes : Nat → Int32) (t_queueNow : Nat → Int32) (t_servedAt : Nat → Int32) (t_comesWas : Nat → Int32) : Option (Int32 × Int32 × Int32 × Int32 × (Nat → Int32) × (Nat → Int32) × (Nat → Int32) × (Nat → Int32)) :=
  if 0 ≤ p_p then
    if ck p_p 7 = true then
      lt (t_comes p_p.toNatClampNeg) fun y8 =>
      Mo_calm_l150 p_p t_persons t_law t_bellSet t_kindOf t_wants t_runs y8 0 t_queueMany t_servedNow t_doneAt t_comes t_queueNow t_servedAt t_comesWas
    else none
  else
    Mo_calm_l150 p_p t_persons t_law t_bellSet t_kindOf t_wants t_runs x2 0 t_queueMany t_servedNow t_doneAt t_comes t_queueNow t_servedAt t_comesWas
noncomputable def Mo_calm_b62 (p_p : Int32) (t_persons : Int32) (t_law : Int32) (t_bellSet : Int64) (t_kindOf : Nat → Int32) (t_wants : Nat → Int32) (t_runs : Nat → Int32) (x2 : Int32) (x3 : Int32) (t_queueMany : Int32) (t_servedNow : Int32) (t_doneAt : Int32) (t_comes : Nat → Int32) (t_queueNow : Nat → Int32) (t_servedAt : Nat → Int32) (t_comesWas : Nat → Int32) : Option ((Nat × Int32 × Int32 × Int32 × Int32 × Int32 × Int32 × Int32 × (Nat → Int32) × (Nat → Int32) × (Nat → Int32) × (Nat → Int32)) ⊕ (Int32 × Int32 × Int32 × Int32 × (Nat → Int32) × (Nat → Int32) × (Nat → Int32) × (Nat → Int32))) :=
  if 40 ≤ x3 then
    ex (Mo_calm_j132 p_p t_persons t_law t_bellSet t_kindOf t_wants t_runs x2 t_queueMany t_servedNow t_doneAt t_comes t_queueNow t_servedAt t_comesWas)
  else
    if 0 ≤ x2 then
      ex (Mo_calm_j132 p_p t_persons t_law t_bellSet t_kindOf t_wants t_runs x2 t_queueMany t_servedNow t_doneAt t_comes t_queueNow t_servedAt t_comesWas)
    else
      some (.inl (1, 0, x3, 0, 0, t_queueMany, t_servedNow, t_doneAt, t_comes, t_queueNow, t_servedAt, t_comesWas))
noncomputable def Mo_calm_b78 (p_p : Int32) (t_persons : Int32) (t_law : Int32) (t_bellSet : Int64) (t_kindOf : Nat → Int32) (t_wants : Nat → Int32) (t_runs : Nat → Int32) (x3 : Int32) (x4 : Int32) (x5 : Int32) (t_queueMany : Int32) (t_servedNow : Int32) (t_doneAt : Int32) (t_comes : Nat → Int32) (t_queueNow : Nat → Int32) (t_servedAt : Nat → Int32) (t_comesWas : Nat → Int32) : Option ((Nat × Int32 × Int32 × Int32 × Int32 × Int32 × Int32 × Int32 × (Nat → Int32) × (Nat → Int32) × (Nat → Int32) × (Nat → Int32)) ⊕ (Int32 × Int32 × Int32 × Int32 × (Nat → Int32) × (Nat → Int32) × (Nat → Int32) × (Nat → Int32))) :=
  if t_persons ≤ x5 then
    if x4 = 0 then
      lt (x3 + 1) fun y17 =>
      some (.inl (0, x3, y17, 0, 0, t_queueMany, t_servedNow, t_doneAt, t_comes, t_queueNow, t_servedAt, t_comesWas))
    else
      lt (x3 + 1) fun y18 =>
      some (.inl (0, (-9), y18, 0, 0, t_queueMany, t_servedNow, t_doneAt, t_comes, t_queueNow, t_servedAt, t_comesWas))
  else
    (Mo_settles x5 t_persons t_law t_bellSet t_kindOf t_wants t_runs t_queueMany t_servedNow t_doneAt t_comes t_queueNow t_servedAt).bind fun y19 =>
    if y19.1 = 0 then
      if x4 = 0 then
        lt (x5 + 1) fun y24 =>
        some (.inl (1, 0, x3, 0, y24, y19.2.1, y19.2.2.1, y19.2.2.2.1, y19.2.2.2.2.1, y19.2.2.2.2.2.1, y19.2.2.2.2.2.2, t_comesWas))
      else
        lt (x5 + 1) fun y25 =>
        some (.inl (1, 0, x3, 1, y25, y19.2.1, y19.2.2.1, y19.2.2.2.1, y19.2.2.2.2.1, y19.2.2.2.2.2.1, y19.2.2.2.2.2.2, t_comesWas))
    else
      lt (x5 + 1) fun y22 =>
      some (.inl (1, 0, x3, 1, y22, y19.2.1, y19.2.2.1, y19.2.2.2.1, y19.2.2.2.2.1, y19.2.2.2.2.2.1, y19.2.2.2.2.2.2, t_comesWas))
noncomputable def Mo_calm_s62 (p_p : Int32) (t_persons : Int32) (t_law : Int32) (t_bellSet : Int64) (t_kindOf : Nat → Int32) (t_wants : Nat → Int32) (t_runs : Nat → Int32) : (Nat × Int32 × Int32 × Int32 × Int32 × Int32 × Int32 × Int32 × (Nat → Int32) × (Nat → Int32) × (Nat → Int32) × (Nat → Int32)) → Option ((Nat × Int32 × Int32 × Int32 × Int32 × Int32 × Int32 × Int32 × (Nat → Int32) × (Nat → Int32) × (Nat → Int32) × (Nat → Int32)) ⊕ (Int32 × Int32 × Int32 × Int32 × (Nat → Int32) × (Nat → Int32) × (Nat → Int32) × (Nat → Int32))) := fun x => match x.1 with
  | 0 => Mo_calm_b62 p_p t_persons t_law t_bellSet t_kindOf t_wants t_runs x.2.1 x.2.2.1 x.2.2.2.2.2.1 x.2.2.2.2.2.2.1 x.2.2.2.2.2.2.2.1 x.2.2.2.2.2.2.2.2.1 x.2.2.2.2.2.2.2.2.2.1 x.2.2.2.2.2.2.2.2.2.2.1 x.2.2.2.2.2.2.2.2.2.2.2
  | 1 => Mo_calm_b78 p_p t_persons t_law t_bellSet t_kindOf t_wants t_runs x.2.2.1 x.2.2.2.1 x.2.2.2.2.1 x.2.2.2.2.2.1 x.2.2.2.2.2.2.1 x.2.2.2.2.2.2.2.1 x.2.2.2.2.2.2.2.2.1 x.2.2.2.2.2.2.2.2.2.1 x.2.2.2.2.2.2.2.2.2.2.1 x.2.2.2.2.2.2.2.2.2.2.2
  | _ => none
noncomputable def Mo_calm_l62 (p_p : Int32) (t_persons : Int32) (t_law : Int32) (t_bellSet : Int64) (t_kindOf : Nat → Int32) (t_wants : Nat → Int32) (t_runs : Nat → Int32) (x2 : Int32) (x3 : Int32) (t_queueMany : Int32) (t_servedNow : Int32) (t_doneAt : Int32) (t_comes : Nat → Int32) (t_queueNow : Nat → Int32) (t_servedAt : Nat → Int32) (t_comesWas : Nat → Int32) : Option (Int32 × Int32 × Int32 × Int32 × (Nat → Int32) × (Nat → Int32) × (Nat → Int32) × (Nat → Int32)) := fin (Mo_calm_s62 p_p t_persons t_law t_bellSet t_kindOf t_wants t_runs) (0, x2, x3, 0, 0, t_queueMany, t_servedNow, t_doneAt, t_comes, t_queueNow, t_servedAt, t_comesWas)
noncomputable def Mo_calm_l78 (p_p : Int32) (t_persons : Int32) (t_law : Int32) (t_bellSet : Int64) (t_kindOf : Nat → Int32) (t_wants : Nat → Int32) (t_runs : Nat → Int32) (x3 : Int32) (x4 : Int32) (x5 : Int32) (t_queueMany : Int32) (t_servedNow : Int32) (t_doneAt : Int32) (t_comes : Nat → Int32) (t_queueNow : Nat → Int32) (t_servedAt : Nat → Int32) (t_comesWas : Nat → Int32) : Option (Int32 × Int32 × Int32 × Int32 × (Nat → Int32) × (Nat → Int32) × (Nat → Int32) × (Nat → Int32)) := fin (Mo_calm_s62 p_p t_persons t_law t_bellSet t_kindOf t_wants t_runs) (1, 0, x3, x4, x5, t_queueMany, t_servedNow, t_doneAt, t_comes, t_queueNow, t_servedAt, t_comesWas)
noncomputable def Mo_calm_b31 (p_p : Int32) (t_persons : Int32) (t_law : Int32) (t_bellSet : Int64) (t_kindOf : Nat → Int32) (t_wants : Nat → Int32) (t_runs : Nat → Int32) (x2 : Int32) (t_queueMany : Int32) (t_servedNow : Int32) (t_doneAt : Int32) (t_comes : Nat → Int32) (t_queueNow : Nat → Int32) (t_servedAt : Nat → Int32) (t_comesWas : Nat → Int32) : Option ((Int32 × Int32 × Int32 × Int32 × (Nat → Int32) × (Nat → Int32) × (Nat → Int32) × (Nat → Int32)) ⊕ (Int32 × Int32 × Int32 × Int32 × (Nat → Int32) × (Nat → Int32) × (Nat → Int32) × (Nat → Int32))) :=
  if t_persons ≤ x2 then
    ex (Mo_calm_l62 p_p t_persons t_law t_bellSet t_kindOf t_wants t_runs (-9) 0 t_queueMany t_servedNow t_doneAt t_comes t_queueNow t_servedAt t_comesWas)
  else
    if ck x2 7 = true then
      lt (t_comes x2.toNatClampNeg) fun y27 =>
      if ck x2 7 = true then
        lt (x2 + 1) fun y29 =>
        some (.inl (y29, t_queueMany, t_servedNow, t_doneAt, t_comes, t_queueNow, t_servedAt, upd t_comesWas x2.toNatClampNeg y27))
      else none
    else none
noncomputable def Mo_calm_s31 (p_p : Int32) (t_persons : Int32) (t_law : Int32) (t_bellSet : Int64) (t_kindOf : Nat → Int32) (t_wants : Nat → Int32) (t_runs : Nat → Int32) : (Int32 × Int32 × Int32 × Int32 × (Nat → Int32) × (Nat → Int32) × (Nat → Int32) × (Nat → Int32)) → Option ((Int32 × Int32 × Int32 × Int32 × (Nat → Int32) × (Nat → Int32) × (Nat → Int32) × (Nat → Int32)) ⊕ (Int32 × Int32 × Int32 × Int32 × (Nat → Int32) × (Nat → Int32) × (Nat → Int32) × (Nat → Int32))) := fun x => Mo_calm_b31 p_p t_persons t_law t_bellSet t_kindOf t_wants t_runs x.1 x.2.1 x.2.2.1 x.2.2.2.1 x.2.2.2.2.1 x.2.2.2.2.2.1 x.2.2.2.2.2.2.1 x.2.2.2.2.2.2.2
noncomputable def Mo_calm_l31 (p_p : Int32) (t_persons : Int32) (t_law : Int32) (t_bellSet : Int64) (t_kindOf : Nat → Int32) (t_wants : Nat → Int32) (t_runs : Nat → Int32) (x2 : Int32) (t_queueMany : Int32) (t_servedNow : Int32) (t_doneAt : Int32) (t_comes : Nat → Int32) (t_queueNow : Nat → Int32) (t_servedAt : Nat → Int32) (t_comesWas : Nat → Int32) : Option (Int32 × Int32 × Int32 × Int32 × (Nat → Int32) × (Nat → Int32) × (Nat → Int32) × (Nat → Int32)) := fin (Mo_calm_s31 p_p t_persons t_law t_bellSet t_kindOf t_wants t_runs) (x2, t_queueMany, t_servedNow, t_doneAt, t_comes, t_queueNow, t_servedAt, t_comesWas)
noncomputable def Mo_calm_j19 (p_p : Int32) (t_persons : Int32) (t_law : Int32) (t_bellSet : Int64) (t_kindOf : Nat → Int32) (t_wants : Nat → Int32) (t_runs : Nat → Int32) (t_queueMany : Int32) (t_servedNow : Int32) (t_doneAt : Int32) (t_comes : Nat → Int32) (t_queueNow : Nat → Int32) (t_servedAt : Nat → Int32) (t_comesWas : Nat → Int32) : Option (Int32 × Int32 × Int32 × Int32 × (Nat → Int32) × (Nat → Int32) × (Nat → Int32) × (Nat → Int32)) :=
  if t_persons = 0 then
    some ((-3), t_queueMany, t_servedNow, t_doneAt, t_comes, t_queueNow, t_servedAt, t_comesWas)
  else
    Mo_calm_l31 p_p t_persons t_law t_bellSet t_kindOf t_wants t_runs 0 t_queueMany t_servedNow t_doneAt t_comes t_queueNow t_servedAt t_comesWas
noncomputable def Mo_calm (p_p : Int32) (t_persons : Int32) (t_law : Int32) (t_bellSet : Int64) (t_kindOf : Nat → Int32) (t_wants : Nat → Int32) (t_runs : Nat → Int32) (t_queueMany : Int32) (t_servedNow : Int32) (t_doneAt : Int32) (t_comes : Nat → Int32) (t_queueNow : Nat → Int32) (t_servedAt : Nat → Int32) (t_comesWas : Nat → Int32) : Option (Int32 × Int32 × Int32 × Int32 × (Nat → Int32) × (Nat → Int32) × (Nat → Int32) × (Nat → Int32)) :=
  if p_p < (-1) then
    some ((-1), t_queueMany, t_servedNow, t_doneAt, t_comes, t_queueNow, t_servedAt, t_comesWas)
  else
    if p_p < 0 then
      Mo_calm_j19 p_p t_persons t_law t_bellSet t_kindOf t_wants t_runs t_queueMany t_servedNow t_doneAt t_comes t_queueNow t_servedAt t_comesWas
    else
      (Mo_noPerson p_p t_persons).bind fun y30 =>
      if y30 = 0 then
        Mo_calm_j19 p_p t_persons t_law t_bellSet t_kindOf t_wants t_runs t_queueMany t_servedNow t_doneAt t_comes t_queueNow t_servedAt t_comesWas
      else
        some ((-1), t_queueMany, t_servedNow, t_doneAt, t_comes, t_queueNow, t_servedAt, t_comesWas)
theorem Mo_calm_l150_eq (p_p : Int32) (t_persons : Int32) (t_law : Int32) (t_bellSet : Int64) (t_kindOf : Nat → Int32) (t_wants : Nat → Int32) (t_runs : Nat → Int32) (x3 : Int32) (x4 : Int32) (t_queueMany : Int32) (t_servedNow : Int32) (t_doneAt : Int32) (t_comes : Nat → Int32) (t_queueNow : Nat → Int32) (t_servedAt : Nat → Int32) (t_comesWas : Nat → Int32) : Mo_calm_l150 p_p t_persons t_law t_bellSet t_kindOf t_wants t_runs x3 x4 t_queueMany t_servedNow t_doneAt t_comes t_queueNow t_servedAt t_comesWas = (Mo_calm_b150 p_p t_persons t_law t_bellSet t_kindOf t_wants t_runs x3 x4 t_queueMany t_servedNow t_doneAt t_comes t_queueNow t_servedAt t_comesWas).bind (sg (fin (Mo_calm_s150 p_p t_persons t_law t_bellSet t_kindOf t_wants t_runs))) := by
  unfold Mo_calm_l150
  exact fin_eq _ _
theorem Mo_calm_l150_fd (p_p : Int32) (t_persons : Int32) (t_law : Int32) (t_bellSet : Int64) (t_kindOf : Nat → Int32) (t_wants : Nat → Int32) (t_runs : Nat → Int32) (x3 : Int32) (x4 : Int32) (t_queueMany : Int32) (t_servedNow : Int32) (t_doneAt : Int32) (t_comes : Nat → Int32) (t_queueNow : Nat → Int32) (t_servedAt : Nat → Int32) (t_comesWas : Nat → Int32) : fin (Mo_calm_s150 p_p t_persons t_law t_bellSet t_kindOf t_wants t_runs) (x3, x4, t_queueMany, t_servedNow, t_doneAt, t_comes, t_queueNow, t_servedAt, t_comesWas) = Mo_calm_l150 p_p t_persons t_law t_bellSet t_kindOf t_wants t_runs x3 x4 t_queueMany t_servedNow t_doneAt t_comes t_queueNow t_servedAt t_comesWas := rfl
theorem Mo_calm_l62_eq (p_p : Int32) (t_persons : Int32) (t_law : Int32) (t_bellSet : Int64) (t_kindOf : Nat → Int32) (t_wants : Nat → Int32) (t_runs : Nat → Int32) (x2 : Int32) (x3 : Int32) (t_queueMany : Int32) (t_servedNow : Int32) (t_doneAt : Int32) (t_comes : Nat → Int32) (t_queueNow : Nat → Int32) (t_servedAt : Nat → Int32) (t_comesWas : Nat → Int32) : Mo_calm_l62 p_p t_persons t_law t_bellSet t_kindOf t_wants t_runs x2 x3 t_queueMany t_servedNow t_doneAt t_comes t_queueNow t_servedAt t_comesWas = (Mo_calm_b62 p_p t_persons t_law t_bellSet t_kindOf t_wants t_runs x2 x3 t_queueMany t_servedNow t_doneAt t_comes t_queueNow t_servedAt t_comesWas).bind (sg (fin (Mo_calm_s62 p_p t_persons t_law t_bellSet t_kindOf t_wants t_runs))) := by
  unfold Mo_calm_l62
  exact fin_eq _ _
theorem Mo_calm_l62_fd (p_p : Int32) (t_persons : Int32) (t_law : Int32) (t_bellSet : Int64) (t_kindOf : Nat → Int32) (t_wants : Nat → Int32) (t_runs : Nat → Int32) (x2 : Int32) (x3 : Int32) (t_queueMany : Int32) (t_servedNow : Int32) (t_doneAt : Int32) (t_comes : Nat → Int32) (t_queueNow : Nat → Int32) (t_servedAt : Nat → Int32) (t_comesWas : Nat → Int32) : fin (Mo_calm_s62 p_p t_persons t_law t_bellSet t_kindOf t_wants t_runs) (0, x2, x3, 0, 0, t_queueMany, t_servedNow, t_doneAt, t_comes, t_queueNow, t_servedAt, t_comesWas) = Mo_calm_l62 p_p t_persons t_law t_bellSet t_kindOf t_wants t_runs x2 x3 t_queueMany t_servedNow t_doneAt t_comes t_queueNow t_servedAt t_comesWas := rfl
theorem Mo_calm_l78_eq (p_p : Int32) (t_persons : Int32) (t_law : Int32) (t_bellSet : Int64) (t_kindOf : Nat → Int32) (t_wants : Nat → Int32) (t_runs : Nat → Int32) (x3 : Int32) (x4 : Int32) (x5 : Int32) (t_queueMany : Int32) (t_servedNow : Int32) (t_doneAt : Int32) (t_comes : Nat → Int32) (t_queueNow : Nat → Int32) (t_servedAt : Nat → Int32) (t_comesWas : Nat → Int32) : Mo_calm_l78 p_p t_persons t_law t_bellSet t_kindOf t_wants t_runs x3 x4 x5 t_queueMany t_servedNow t_doneAt t_comes t_queueNow t_servedAt t_comesWas = (Mo_calm_b78 p_p t_persons t_law t_bellSet t_kindOf t_wants t_runs x3 x4 x5 t_queueMany t_servedNow t_doneAt t_comes t_queueNow t_servedAt t_comesWas).bind (sg (fin (Mo_calm_s62 p_p t_persons t_law t_bellSet t_kindOf t_wants t_runs))) := by
  unfold Mo_calm_l78
  exact fin_eq _ _
theorem Mo_calm_l78_fd (p_p : Int32) (t_persons : Int32) (t_law : Int32) (t_bellSet : Int64) (t_kindOf : Nat → Int32) (t_wants : Nat → Int32) (t_runs : Nat → Int32) (x3 : Int32) (x4 : Int32) (x5 : Int32) (t_queueMany : Int32) (t_servedNow : Int32) (t_doneAt : Int32) (t_comes : Nat → Int32) (t_queueNow : Nat → Int32) (t_servedAt : Nat → Int32) (t_comesWas : Nat → Int32) : fin (Mo_calm_s62 p_p t_persons t_law t_bellSet t_kindOf t_wants t_runs) (1, 0, x3, x4, x5, t_queueMany, t_servedNow, t_doneAt, t_comes, t_queueNow, t_servedAt, t_comesWas) = Mo_calm_l78 p_p t_persons t_law t_bellSet t_kindOf t_wants t_runs x3 x4 x5 t_queueMany t_servedNow t_doneAt t_comes t_queueNow t_servedAt t_comesWas := rfl
theorem Mo_calm_l31_eq (p_p : Int32) (t_persons : Int32) (t_law : Int32) (t_bellSet : Int64) (t_kindOf : Nat → Int32) (t_wants : Nat → Int32) (t_runs : Nat → Int32) (x2 : Int32) (t_queueMany : Int32) (t_servedNow : Int32) (t_doneAt : Int32) (t_comes : Nat → Int32) (t_queueNow : Nat → Int32) (t_servedAt : Nat → Int32) (t_comesWas : Nat → Int32) : Mo_calm_l31 p_p t_persons t_law t_bellSet t_kindOf t_wants t_runs x2 t_queueMany t_servedNow t_doneAt t_comes t_queueNow t_servedAt t_comesWas = (Mo_calm_b31 p_p t_persons t_law t_bellSet t_kindOf t_wants t_runs x2 t_queueMany t_servedNow t_doneAt t_comes t_queueNow t_servedAt t_comesWas).bind (sg (fin (Mo_calm_s31 p_p t_persons t_law t_bellSet t_kindOf t_wants t_runs))) := by
  unfold Mo_calm_l31
  exact fin_eq _ _
theorem Mo_calm_l31_fd (p_p : Int32) (t_persons : Int32) (t_law : Int32) (t_bellSet : Int64) (t_kindOf : Nat → Int32) (t_wants : Nat → Int32) (t_runs : Nat → Int32) (x2 : Int32) (t_queueMany : Int32) (t_servedNow : Int32) (t_doneAt : Int32) (t_comes : Nat → Int32) (t_queueNow : Nat → Int32) (t_servedAt : Nat → Int32) (t_comesWas : Nat → Int32) : fin (Mo_calm_s31 p_p t_persons t_law t_bellSet t_kindOf t_wants t_runs) (x2, t_queueMany, t_servedNow, t_doneAt, t_comes, t_queueNow, t_servedAt, t_comesWas) = Mo_calm_l31 p_p t_persons t_law t_bellSet t_kindOf t_wants t_runs x2 t_queueMany t_servedNow t_doneAt t_comes t_queueNow t_servedAt t_comesWas := rfl
set_option maxRecDepth 100000 in
set_option maxHeartbeats 4000000 in
theorem c_Mo_calm (l : Launch) (D : va_G) (cI cJ cS : ClassId) (q_t q_t_kindOf q_t_comes q_t_wants q_t_runs q_t_readKind q_t_readComes q_t_readWants q_t_queueNow q_t_servedAt q_t_comesWas q_t_readingOf q_t_readingAt q_t_sheetSize q_t_sheetLane q_t_sheet q_t_hands : Nat) (t_fault : Int32) (t_persons : Int32) (t_law : Int32) (t_bellSet : Int64) (t_readAt : Int32) (t_readLaw : Int32) (t_readMany : Int32) (t_queueMany : Int32) (t_servedNow : Int32) (t_doneAt : Int32) (t_readings : Int32) (t_whichMany : Int32) (t_whichOne : Int32) (t_whichTwo : Int32) (t_traceNow : Int32) (t_kindOf : Nat → Int32) (t_comes : Nat → Int32) (t_wants : Nat → Int32) (t_runs : Nat → Int32) (t_queueNow : Nat → Int32) (t_servedAt : Nat → Int32) (t_comesWas : Nat → Int32) (p_p : Int32) (o : Int32 × Int32 × Int32 × Int32 × (Nat → Int32) × (Nat → Int32) × (Nat → Int32) × (Nat → Int32)) (hM : Mo_calm p_p t_persons t_law t_bellSet t_kindOf t_wants t_runs t_queueMany t_servedNow t_doneAt t_comes t_queueNow t_servedAt t_comesWas = some o) : Ci l yX9_calm wsX9_calm rm_Mo_calm D cI cJ cS [.ref q_t, .int p_p] (w_Mo_calm cI cJ cS q_t q_t_kindOf q_t_comes q_t_wants q_t_runs q_t_readKind q_t_readComes q_t_readWants q_t_queueNow q_t_servedAt q_t_comesWas q_t_readingOf q_t_readingAt q_t_sheetSize q_t_sheetLane q_t_sheet q_t_hands t_fault t_persons t_law t_bellSet t_readAt t_readLaw t_readMany t_queueMany t_servedNow t_doneAt t_readings t_whichMany t_whichOne t_whichTwo t_traceNow t_kindOf t_comes t_wants t_runs t_queueNow t_servedAt t_comesWas) (w_Mo_calm cI cJ cS q_t q_t_kindOf q_t_comes q_t_wants q_t_runs q_t_readKind q_t_readComes q_t_readWants q_t_queueNow q_t_servedAt q_t_comesWas q_t_readingOf q_t_readingAt q_t_sheetSize q_t_sheetLane q_t_sheet q_t_hands t_fault t_persons t_law t_bellSet t_readAt t_readLaw t_readMany o.2.1 o.2.2.1 o.2.2.2.1 t_readings t_whichMany t_whichOne t_whichTwo t_traceNow t_kindOf o.2.2.2.2.1 t_wants t_runs o.2.2.2.2.2.1 o.2.2.2.2.2.2.1 o.2.2.2.2.2.2.2) o.1 := by
  refine Ci.of (cc := cX9_calm) (maxL := 6) (ret := (some .int)) (by decide) rfl (Nat.le_of_ble_eq_true rfl) ?_
  intro p e s m args below meth c A ls hE
  obtain ⟨hx, hb, hr, hml, hown, hts, hlocks, hK, hA, hP, hD, hS, hl⟩ := hE
  have hown : s.vm.findClass RX9 = some m.cls := hown
  have hl : lv_has ls 6 [(0, .ref q_t), (1, .int p_p)] := hl
  have iX9 : ∀ w ∈ u_ws RX9 TX9 31, w ∈ wsX9_calm := by decide +kernel
  have k0 := hts (.fieldLink RX9 68 "TurnQueueModel" "persons" "I") (by decide +kernel)
  have k1 := hts (.fieldLink RX9 13 "TurnQueueModel" "comes" "[I") (by decide +kernel)
  have k2 := hts (.fieldLink RX9 37 "TurnQueueModel" "comesWas" "[I") (by decide +kernel)
  have L150 : ∀ n : Nat, (∀ (x3 : Int32) (x4 : Int32) (t_queueMany : Int32) (t_servedNow : Int32) (t_doneAt : Int32) (t_comes : Nat → Int32) (t_queueNow : Nat → Int32) (t_servedAt : Nat → Int32) (t_comesWas : Nat → Int32), itr (Mo_calm_s150 p_p t_persons t_law t_bellSet t_kindOf t_wants t_runs) n (x3, x4, t_queueMany, t_servedNow, t_doneAt, t_comes, t_queueNow, t_servedAt, t_comesWas) = some o → ∀ (H : Heap) (locs : List Loc), va_P D vwCl (w_Mo_calm cI cJ cS q_t q_t_kindOf q_t_comes q_t_wants q_t_runs q_t_readKind q_t_readComes q_t_readWants q_t_queueNow q_t_servedAt q_t_comesWas q_t_readingOf q_t_readingAt q_t_sheetSize q_t_sheetLane q_t_sheet q_t_hands t_fault t_persons t_law t_bellSet t_readAt t_readLaw t_readMany t_queueMany t_servedNow t_doneAt t_readings t_whichMany t_whichOne t_whichTwo t_traceNow t_kindOf t_comes t_wants t_runs t_queueNow t_servedAt t_comesWas) H → va_D A (w_Mo_calm cI cJ cS q_t q_t_kindOf q_t_comes q_t_wants q_t_runs q_t_readKind q_t_readComes q_t_readWants q_t_queueNow q_t_servedAt q_t_comesWas q_t_readingOf q_t_readingAt q_t_sheetSize q_t_sheetLane q_t_sheet q_t_hands t_fault t_persons t_law t_bellSet t_readAt t_readLaw t_readMany t_queueMany t_servedNow t_doneAt t_readings t_whichMany t_whichOne t_whichTwo t_traceNow t_kindOf t_comes t_wants t_runs t_queueNow t_servedAt t_comesWas) → va_S A s.heap H locs → ∀ ls : Array Slot, lv_has ls 6 [(0, .ref q_t), (3, .int x3), (4, .int x4)] → W p l e (headSpec wsX9_calm rm_Mo_calm).room s m args below meth c H locs 0 0 (MQ below (CQi D (w_Mo_calm cI cJ cS q_t q_t_kindOf q_t_comes q_t_wants q_t_runs q_t_readKind q_t_readComes q_t_readWants q_t_queueNow q_t_servedAt q_t_comesWas q_t_readingOf q_t_readingAt q_t_sheetSize q_t_sheetLane q_t_sheet q_t_hands t_fault t_persons t_law t_bellSet t_readAt t_readLaw t_readMany o.2.1 o.2.2.1 o.2.2.2.1 t_readings t_whichMany t_whichOne t_whichTwo t_traceNow t_kindOf o.2.2.2.2.1 t_wants t_runs o.2.2.2.2.2.1 o.2.2.2.2.2.2.1 o.2.2.2.2.2.2.2) A o.1) args s 0 0 A) (F0 m 150 ls [])) := by
    intro n
    induction n with
    | zero => exact fun _ _ _ _ _ _ _ _ _ hM => (itr_0 hM).elim
    | succ n ih =>
      intro x3 x4 t_queueMany t_servedNow t_doneAt t_comes t_queueNow t_servedAt t_comesWas hM H locs hP hD hS ls hl
      have hM : (Mo_calm_b150 p_p t_persons t_law t_bellSet t_kindOf t_wants t_runs x3 x4 t_queueMany t_servedNow t_doneAt t_comes t_queueNow t_servedAt t_comesWas).bind (sg (itr (Mo_calm_s150 p_p t_persons t_law t_bellSet t_kindOf t_wants t_runs) n)) = some o := hM
      unfold Mo_calm_b150 at hM
      refine lv_iload hx hb dX9_calm_150 (lv_at hl 2 rfl) ?_
      refine lv_aload_n hx hb dX9_calm_152 rfl (lv_at hl 0 rfl) ?_
      refine va_get (ci := 8) (v := .int t_persons) (C := RX9) (T := TX9) (N := 31) hx hb hts iX9 hown hK.1 hP 0 rfl rfl 1 (Nat.le_of_ble_eq_true rfl) k0 (fun _ h9 => h9) rfl dX9_calm_153 ?_
      refine lv_icmp_ge (tgt := 179) hx hb dX9_calm_156 (by decide) (fun c9 => ?_) (fun c9 => ?_)
      · have hM := (s_if hM).1 c9
        refine lv_iload_n hx hb dX9_calm_179 rfl (lv_at hl 1 rfl) ?_
        have hM := (Option.some.inj (s_rt hM))
        subst hM
        exact rt_i hx hb hr hlocks hP hD hS dX9_calm_180
      · have hM := (s_if hM).2 c9
        refine lv_aload_n hx hb dX9_calm_159 rfl (lv_at hl 0 rfl) ?_
        refine va_get (ci := 8) (v := .ref q_t_comes) (C := RX9) (T := TX9) (N := 31) hx hb hts iX9 hown hK.1 hP 0 rfl rfl 4 (Nat.le_of_ble_eq_true rfl) k1 (fun _ h9 => h9) rfl dX9_calm_160 ?_
        refine lv_iload hx hb dX9_calm_163 (lv_at hl 2 rfl) ?_
        refine lv_aload_n hx hb dX9_calm_165 rfl (lv_at hl 0 rfl) ?_
        refine va_get (ci := 8) (v := .ref q_t_comesWas) (C := RX9) (T := TX9) (N := 31) hx hb hts iX9 hown hK.1 hP 0 rfl rfl 19 (Nat.le_of_ble_eq_true rfl) k2 (fun _ h9 => h9) rfl dX9_calm_166 ?_
        refine lv_iload hx hb dX9_calm_169 (lv_at hl 2 rfl) ?_
        obtain ⟨h10, hM⟩ := s_ck hM
        refine va_iald hx hb hK.1 hP 7 0 rfl rfl h10 dX9_calm_171 ?_
        refine lv_topi (fun y11 ey11 => ?_)
        have hM := s_lt hM y11 ey11
        obtain ⟨h12, hM⟩ := s_ck hM
        refine va_iast hx hb hK.1 hP hD hS 2 0 rfl rfl h12 dX9_calm_172 (fun H locs hP hD hS => ?_)
        have hP : va_P D vwCl (w_Mo_calm cI cJ cS q_t q_t_kindOf q_t_comes q_t_wants q_t_runs q_t_readKind q_t_readComes q_t_readWants q_t_queueNow q_t_servedAt q_t_comesWas q_t_readingOf q_t_readingAt q_t_sheetSize q_t_sheetLane q_t_sheet q_t_hands t_fault t_persons t_law t_bellSet t_readAt t_readLaw t_readMany t_queueMany t_servedNow t_doneAt t_readings t_whichMany t_whichOne t_whichTwo t_traceNow t_kindOf (upd t_comes x4.toNatClampNeg y11) t_wants t_runs t_queueNow t_servedAt t_comesWas) H := hP
        have hD : va_D A (w_Mo_calm cI cJ cS q_t q_t_kindOf q_t_comes q_t_wants q_t_runs q_t_readKind q_t_readComes q_t_readWants q_t_queueNow q_t_servedAt q_t_comesWas q_t_readingOf q_t_readingAt q_t_sheetSize q_t_sheetLane q_t_sheet q_t_hands t_fault t_persons t_law t_bellSet t_readAt t_readLaw t_readMany t_queueMany t_servedNow t_doneAt t_readings t_whichMany t_whichOne t_whichTwo t_traceNow t_kindOf (upd t_comes x4.toNatClampNeg y11) t_wants t_runs t_queueNow t_servedAt t_comesWas) := hD
        obtain ⟨y13, ey13⟩ : ∃ y : Int32, y = x4 + 1 := ⟨_, rfl⟩
        have hM := s_lt hM y13 ey13
        refine lv_iinc (v := y13) (lv' := [(4, .int y13), (0, .ref q_t), (3, .int x3)]) hx hb dX9_calm_173 hl (k := 2) rfl (by rw [ey13]; rfl) (Nat.le_of_ble_eq_true rfl) rfl (fun ls hl => ?_)
        refine lv_goto (tgt := 150) hx hb dX9_calm_176 (by decide) ?_
        exact ih x3 y13 t_queueMany t_servedNow t_doneAt (upd t_comes x4.toNatClampNeg y11) t_queueNow t_servedAt t_comesWas (s_jp hM) _ _ hP hD hS _ (lv_sub hl [1, 2, 0] rfl)
  have J150 : ∀ (x3 : Int32) (x4 : Int32) (t_queueMany : Int32) (t_servedNow : Int32) (t_doneAt : Int32) (t_comes : Nat → Int32) (t_queueNow : Nat → Int32) (t_servedAt : Nat → Int32) (t_comesWas : Nat → Int32), Mo_calm_l150 p_p t_persons t_law t_bellSet t_kindOf t_wants t_runs x3 x4 t_queueMany t_servedNow t_doneAt t_comes t_queueNow t_servedAt t_comesWas = some o → ∀ (H : Heap) (locs : List Loc), va_P D vwCl (w_Mo_calm cI cJ cS q_t q_t_kindOf q_t_comes q_t_wants q_t_runs q_t_readKind q_t_readComes q_t_readWants q_t_queueNow q_t_servedAt q_t_comesWas q_t_readingOf q_t_readingAt q_t_sheetSize q_t_sheetLane q_t_sheet q_t_hands t_fault t_persons t_law t_bellSet t_readAt t_readLaw t_readMany t_queueMany t_servedNow t_doneAt t_readings t_whichMany t_whichOne t_whichTwo t_traceNow t_kindOf t_comes t_wants t_runs t_queueNow t_servedAt t_comesWas) H → va_D A (w_Mo_calm cI cJ cS q_t q_t_kindOf q_t_comes q_t_wants q_t_runs q_t_readKind q_t_readComes q_t_readWants q_t_queueNow q_t_servedAt q_t_comesWas q_t_readingOf q_t_readingAt q_t_sheetSize q_t_sheetLane q_t_sheet q_t_hands t_fault t_persons t_law t_bellSet t_readAt t_readLaw t_readMany t_queueMany t_servedNow t_doneAt t_readings t_whichMany t_whichOne t_whichTwo t_traceNow t_kindOf t_comes t_wants t_runs t_queueNow t_servedAt t_comesWas) → va_S A s.heap H locs → ∀ ls : Array Slot, lv_has ls 6 [(0, .ref q_t), (3, .int x3), (4, .int x4)] → W p l e (headSpec wsX9_calm rm_Mo_calm).room s m args below meth c H locs 0 0 (MQ below (CQi D (w_Mo_calm cI cJ cS q_t q_t_kindOf q_t_comes q_t_wants q_t_runs q_t_readKind q_t_readComes q_t_readWants q_t_queueNow q_t_servedAt q_t_comesWas q_t_readingOf q_t_readingAt q_t_sheetSize q_t_sheetLane q_t_sheet q_t_hands t_fault t_persons t_law t_bellSet t_readAt t_readLaw t_readMany o.2.1 o.2.2.1 o.2.2.2.1 t_readings t_whichMany t_whichOne t_whichTwo t_traceNow t_kindOf o.2.2.2.2.1 t_wants t_runs o.2.2.2.2.2.1 o.2.2.2.2.2.2.1 o.2.2.2.2.2.2.2) A o.1) args s 0 0 A) (F0 m 150 ls []) := by
    intro x3 x4 t_queueMany t_servedNow t_doneAt t_comes t_queueNow t_servedAt t_comesWas hM
    unfold Mo_calm_l150 at hM
    obtain ⟨n0, hM⟩ := fin_some hM
    exact (L150 n0) x3 x4 t_queueMany t_servedNow t_doneAt t_comes t_queueNow t_servedAt t_comesWas hM
  have J132 : ∀ (x2 : Int32) (t_queueMany : Int32) (t_servedNow : Int32) (t_doneAt : Int32) (t_comes : Nat → Int32) (t_queueNow : Nat → Int32) (t_servedAt : Nat → Int32) (t_comesWas : Nat → Int32), Mo_calm_j132 p_p t_persons t_law t_bellSet t_kindOf t_wants t_runs x2 t_queueMany t_servedNow t_doneAt t_comes t_queueNow t_servedAt t_comesWas = some o → ∀ (H : Heap) (locs : List Loc), va_P D vwCl (w_Mo_calm cI cJ cS q_t q_t_kindOf q_t_comes q_t_wants q_t_runs q_t_readKind q_t_readComes q_t_readWants q_t_queueNow q_t_servedAt q_t_comesWas q_t_readingOf q_t_readingAt q_t_sheetSize q_t_sheetLane q_t_sheet q_t_hands t_fault t_persons t_law t_bellSet t_readAt t_readLaw t_readMany t_queueMany t_servedNow t_doneAt t_readings t_whichMany t_whichOne t_whichTwo t_traceNow t_kindOf t_comes t_wants t_runs t_queueNow t_servedAt t_comesWas) H → va_D A (w_Mo_calm cI cJ cS q_t q_t_kindOf q_t_comes q_t_wants q_t_runs q_t_readKind q_t_readComes q_t_readWants q_t_queueNow q_t_servedAt q_t_comesWas q_t_readingOf q_t_readingAt q_t_sheetSize q_t_sheetLane q_t_sheet q_t_hands t_fault t_persons t_law t_bellSet t_readAt t_readLaw t_readMany t_queueMany t_servedNow t_doneAt t_readings t_whichMany t_whichOne t_whichTwo t_traceNow t_kindOf t_comes t_wants t_runs t_queueNow t_servedAt t_comesWas) → va_S A s.heap H locs → ∀ ls : Array Slot, lv_has ls 6 [(0, .ref q_t), (1, .int p_p), (2, .int x2)] → W p l e (headSpec wsX9_calm rm_Mo_calm).room s m args below meth c H locs 0 0 (MQ below (CQi D (w_Mo_calm cI cJ cS q_t q_t_kindOf q_t_comes q_t_wants q_t_runs q_t_readKind q_t_readComes q_t_readWants q_t_queueNow q_t_servedAt q_t_comesWas q_t_readingOf q_t_readingAt q_t_sheetSize q_t_sheetLane q_t_sheet q_t_hands t_fault t_persons t_law t_bellSet t_readAt t_readLaw t_readMany o.2.1 o.2.2.1 o.2.2.2.1 t_readings t_whichMany t_whichOne t_whichTwo t_traceNow t_kindOf o.2.2.2.2.1 t_wants t_runs o.2.2.2.2.2.1 o.2.2.2.2.2.2.1 o.2.2.2.2.2.2.2) A o.1) args s 0 0 A) (F0 m 132 ls []) := by
    intro x2 t_queueMany t_servedNow t_doneAt t_comes t_queueNow t_servedAt t_comesWas hM H locs hP hD hS ls hl
    unfold Mo_calm_j132 at hM
    refine lv_iload_n hx hb dX9_calm_132 rfl (lv_at hl 1 rfl) ?_
    refine lv_if_ge (tgt := 140) hx hb dX9_calm_133 (by decide) (fun c6 => ?_) (fun c6 => ?_)
    · have hM := (o_if hM).1 c6
      refine lv_aload_n hx hb dX9_calm_140 rfl (lv_at hl 0 rfl) ?_
      refine va_get (ci := 8) (v := .ref q_t_comes) (C := RX9) (T := TX9) (N := 31) hx hb hts iX9 hown hK.1 hP 0 rfl rfl 4 (Nat.le_of_ble_eq_true rfl) k1 (fun _ h9 => h9) rfl dX9_calm_141 ?_
      refine lv_iload_n hx hb dX9_calm_144 rfl (lv_at hl 1 rfl) ?_
      obtain ⟨h7, hM⟩ := o_ck hM
      refine va_iald hx hb hK.1 hP 2 0 rfl rfl h7 dX9_calm_145 ?_
      refine lv_topi (fun y8 ey8 => ?_)
      have hM := o_lt hM y8 ey8
      refine lv_istore_n (lv' := [(3, .int y8), (0, .ref q_t), (1, .int p_p), (2, .int x2)]) hx hb dX9_calm_146 rfl hl (Nat.le_of_ble_eq_true rfl) rfl (fun ls hl => ?_)
      refine lv_iconst (v := 0) hx hb dX9_calm_147 (by decide) ?_
      refine lv_istore (lv' := [(4, .int 0), (3, .int y8), (0, .ref q_t), (1, .int p_p), (2, .int x2)]) hx hb dX9_calm_148 hl (Nat.le_of_ble_eq_true rfl) rfl (fun ls hl => ?_)
      exact J150 y8 0 t_queueMany t_servedNow t_doneAt t_comes t_queueNow t_servedAt t_comesWas hM _ _ hP hD hS _ (lv_sub hl [2, 1, 0] rfl)
    · have hM := (o_if hM).2 c6
      refine lv_iload_n hx hb dX9_calm_136 rfl (lv_at hl 2 rfl) ?_
      refine lv_goto (tgt := 146) hx hb dX9_calm_137 (by decide) ?_
      refine lv_istore_n (lv' := [(3, .int x2), (0, .ref q_t), (1, .int p_p), (2, .int x2)]) hx hb dX9_calm_146 rfl hl (Nat.le_of_ble_eq_true rfl) rfl (fun ls hl => ?_)
      refine lv_iconst (v := 0) hx hb dX9_calm_147 (by decide) ?_
      refine lv_istore (lv' := [(4, .int 0), (3, .int x2), (0, .ref q_t), (1, .int p_p), (2, .int x2)]) hx hb dX9_calm_148 hl (Nat.le_of_ble_eq_true rfl) rfl (fun ls hl => ?_)
      exact J150 x2 0 t_queueMany t_servedNow t_doneAt t_comes t_queueNow t_servedAt t_comesWas hM _ _ hP hD hS _ (lv_sub hl [2, 1, 0] rfl)
  have L62 : ∀ n : Nat, (∀ (x2 : Int32) (x3 : Int32) (t_queueMany : Int32) (t_servedNow : Int32) (t_doneAt : Int32) (t_comes : Nat → Int32) (t_queueNow : Nat → Int32) (t_servedAt : Nat → Int32) (t_comesWas : Nat → Int32), itr (Mo_calm_s62 p_p t_persons t_law t_bellSet t_kindOf t_wants t_runs) n (0, x2, x3, 0, 0, t_queueMany, t_servedNow, t_doneAt, t_comes, t_queueNow, t_servedAt, t_comesWas) = some o → ∀ (H : Heap) (locs : List Loc), va_P D vwCl (w_Mo_calm cI cJ cS q_t q_t_kindOf q_t_comes q_t_wants q_t_runs q_t_readKind q_t_readComes q_t_readWants q_t_queueNow q_t_servedAt q_t_comesWas q_t_readingOf q_t_readingAt q_t_sheetSize q_t_sheetLane q_t_sheet q_t_hands t_fault t_persons t_law t_bellSet t_readAt t_readLaw t_readMany t_queueMany t_servedNow t_doneAt t_readings t_whichMany t_whichOne t_whichTwo t_traceNow t_kindOf t_comes t_wants t_runs t_queueNow t_servedAt t_comesWas) H → va_D A (w_Mo_calm cI cJ cS q_t q_t_kindOf q_t_comes q_t_wants q_t_runs q_t_readKind q_t_readComes q_t_readWants q_t_queueNow q_t_servedAt q_t_comesWas q_t_readingOf q_t_readingAt q_t_sheetSize q_t_sheetLane q_t_sheet q_t_hands t_fault t_persons t_law t_bellSet t_readAt t_readLaw t_readMany t_queueMany t_servedNow t_doneAt t_readings t_whichMany t_whichOne t_whichTwo t_traceNow t_kindOf t_comes t_wants t_runs t_queueNow t_servedAt t_comesWas) → va_S A s.heap H locs → ∀ ls : Array Slot, lv_has ls 6 [(0, .ref q_t), (1, .int p_p), (2, .int x2), (3, .int x3)] → W p l e (headSpec wsX9_calm rm_Mo_calm).room s m args below meth c H locs 0 0 (MQ below (CQi D (w_Mo_calm cI cJ cS q_t q_t_kindOf q_t_comes q_t_wants q_t_runs q_t_readKind q_t_readComes q_t_readWants q_t_queueNow q_t_servedAt q_t_comesWas q_t_readingOf q_t_readingAt q_t_sheetSize q_t_sheetLane q_t_sheet q_t_hands t_fault t_persons t_law t_bellSet t_readAt t_readLaw t_readMany o.2.1 o.2.2.1 o.2.2.2.1 t_readings t_whichMany t_whichOne t_whichTwo t_traceNow t_kindOf o.2.2.2.2.1 t_wants t_runs o.2.2.2.2.2.1 o.2.2.2.2.2.2.1 o.2.2.2.2.2.2.2) A o.1) args s 0 0 A) (F0 m 62 ls [])) ∧ (∀ (x3 : Int32) (x4 : Int32) (x5 : Int32) (t_queueMany : Int32) (t_servedNow : Int32) (t_doneAt : Int32) (t_comes : Nat → Int32) (t_queueNow : Nat → Int32) (t_servedAt : Nat → Int32) (t_comesWas : Nat → Int32), itr (Mo_calm_s62 p_p t_persons t_law t_bellSet t_kindOf t_wants t_runs) n (1, 0, x3, x4, x5, t_queueMany, t_servedNow, t_doneAt, t_comes, t_queueNow, t_servedAt, t_comesWas) = some o → ∀ (H : Heap) (locs : List Loc), va_P D vwCl (w_Mo_calm cI cJ cS q_t q_t_kindOf q_t_comes q_t_wants q_t_runs q_t_readKind q_t_readComes q_t_readWants q_t_queueNow q_t_servedAt q_t_comesWas q_t_readingOf q_t_readingAt q_t_sheetSize q_t_sheetLane q_t_sheet q_t_hands t_fault t_persons t_law t_bellSet t_readAt t_readLaw t_readMany t_queueMany t_servedNow t_doneAt t_readings t_whichMany t_whichOne t_whichTwo t_traceNow t_kindOf t_comes t_wants t_runs t_queueNow t_servedAt t_comesWas) H → va_D A (w_Mo_calm cI cJ cS q_t q_t_kindOf q_t_comes q_t_wants q_t_runs q_t_readKind q_t_readComes q_t_readWants q_t_queueNow q_t_servedAt q_t_comesWas q_t_readingOf q_t_readingAt q_t_sheetSize q_t_sheetLane q_t_sheet q_t_hands t_fault t_persons t_law t_bellSet t_readAt t_readLaw t_readMany t_queueMany t_servedNow t_doneAt t_readings t_whichMany t_whichOne t_whichTwo t_traceNow t_kindOf t_comes t_wants t_runs t_queueNow t_servedAt t_comesWas) → va_S A s.heap H locs → ∀ ls : Array Slot, lv_has ls 6 [(0, .ref q_t), (1, .int p_p), (3, .int x3), (4, .int x4), (5, .int x5)] → W p l e (headSpec wsX9_calm rm_Mo_calm).room s m args below meth c H locs 0 0 (MQ below (CQi D (w_Mo_calm cI cJ cS q_t q_t_kindOf q_t_comes q_t_wants q_t_runs q_t_readKind q_t_readComes q_t_readWants q_t_queueNow q_t_servedAt q_t_comesWas q_t_readingOf q_t_readingAt q_t_sheetSize q_t_sheetLane q_t_sheet q_t_hands t_fault t_persons t_law t_bellSet t_readAt t_readLaw t_readMany o.2.1 o.2.2.1 o.2.2.2.1 t_readings t_whichMany t_whichOne t_whichTwo t_traceNow t_kindOf o.2.2.2.2.1 t_wants t_runs o.2.2.2.2.2.1 o.2.2.2.2.2.2.1 o.2.2.2.2.2.2.2) A o.1) args s 0 0 A) (F0 m 78 ls [])) := by
    intro n
    induction n with
    | zero => exact ⟨fun _ _ _ _ _ _ _ _ _ hM => (itr_0 hM).elim, fun _ _ _ _ _ _ _ _ _ _ hM => (itr_0 hM).elim⟩
    | succ n ih =>
      refine ⟨?_, ?_⟩
      · intro x2 x3 t_queueMany t_servedNow t_doneAt t_comes t_queueNow t_servedAt t_comesWas hM H locs hP hD hS ls hl
        have hM : (Mo_calm_b62 p_p t_persons t_law t_bellSet t_kindOf t_wants t_runs x2 x3 t_queueMany t_servedNow t_doneAt t_comes t_queueNow t_servedAt t_comesWas).bind (sg (itr (Mo_calm_s62 p_p t_persons t_law t_bellSet t_kindOf t_wants t_runs) n)) = some o := hM
        unfold Mo_calm_b62 at hM
        refine lv_iload_n hx hb dX9_calm_62 rfl (lv_at hl 3 rfl) ?_
        refine lv_bipush (v := 40) hx hb dX9_calm_63 (by decide) ?_
        refine lv_icmp_ge (tgt := 132) hx hb dX9_calm_65 (by decide) (fun c5 => ?_) (fun c5 => ?_)
        · have hM := (s_if hM).1 c5
          exact J132 x2 t_queueMany t_servedNow t_doneAt t_comes t_queueNow t_servedAt t_comesWas (s_ex hM) _ _ hP hD hS _ (lv_sub hl [0, 1, 2] rfl)
        · have hM := (s_if hM).2 c5
          refine lv_iload_n hx hb dX9_calm_68 rfl (lv_at hl 2 rfl) ?_
          refine lv_if_ge (tgt := 132) hx hb dX9_calm_69 (by decide) (fun c14 => ?_) (fun c14 => ?_)
          · have hM := (s_if hM).1 c14
            exact J132 x2 t_queueMany t_servedNow t_doneAt t_comes t_queueNow t_servedAt t_comesWas (s_ex hM) _ _ hP hD hS _ (lv_sub hl [0, 1, 2] rfl)
          · have hM := (s_if hM).2 c14
            refine lv_iconst (v := 0) hx hb dX9_calm_72 (by decide) ?_
            refine lv_istore (lv' := [(4, .int 0), (0, .ref q_t), (1, .int p_p), (2, .int x2), (3, .int x3)]) hx hb dX9_calm_73 hl (Nat.le_of_ble_eq_true rfl) rfl (fun ls hl => ?_)
            refine lv_iconst (v := 0) hx hb dX9_calm_75 (by decide) ?_
            refine lv_istore (lv' := [(5, .int 0), (4, .int 0), (0, .ref q_t), (1, .int p_p), (2, .int x2), (3, .int x3)]) hx hb dX9_calm_76 hl (Nat.le_of_ble_eq_true rfl) rfl (fun ls hl => ?_)
            exact ih.2 x3 0 0 t_queueMany t_servedNow t_doneAt t_comes t_queueNow t_servedAt t_comesWas (s_jp hM) _ _ hP hD hS _ (lv_sub hl [2, 3, 5, 1, 0] rfl)
      · intro x3 x4 x5 t_queueMany t_servedNow t_doneAt t_comes t_queueNow t_servedAt t_comesWas hM H locs hP hD hS ls hl
        have hM : (Mo_calm_b78 p_p t_persons t_law t_bellSet t_kindOf t_wants t_runs x3 x4 x5 t_queueMany t_servedNow t_doneAt t_comes t_queueNow t_servedAt t_comesWas).bind (sg (itr (Mo_calm_s62 p_p t_persons t_law t_bellSet t_kindOf t_wants t_runs) n)) = some o := hM
        unfold Mo_calm_b78 at hM
        refine lv_iload hx hb dX9_calm_78 (lv_at hl 4 rfl) ?_
        refine lv_aload_n hx hb dX9_calm_80 rfl (lv_at hl 0 rfl) ?_
        refine va_get (ci := 8) (v := .int t_persons) (C := RX9) (T := TX9) (N := 31) hx hb hts iX9 hown hK.1 hP 0 rfl rfl 1 (Nat.le_of_ble_eq_true rfl) k0 (fun _ h9 => h9) rfl dX9_calm_81 ?_
        refine lv_icmp_ge (tgt := 114) hx hb dX9_calm_84 (by decide) (fun c15 => ?_) (fun c15 => ?_)
        · have hM := (s_if hM).1 c15
          refine lv_iload hx hb dX9_calm_114 (lv_at hl 3 rfl) ?_
          refine lv_if_eq (tgt := 124) hx hb dX9_calm_116 (by decide) (fun c16 => ?_) (fun c16 => ?_)
          · have hM := (s_if hM).1 c16
            refine lv_iload_n hx hb dX9_calm_124 rfl (lv_at hl 2 rfl) ?_
            refine lv_istore_n (lv' := [(2, .int x3), (0, .ref q_t), (1, .int p_p), (3, .int x3), (4, .int x4), (5, .int x5)]) hx hb dX9_calm_125 rfl hl (Nat.le_of_ble_eq_true rfl) rfl (fun ls hl => ?_)
            obtain ⟨y17, ey17⟩ : ∃ y : Int32, y = x3 + 1 := ⟨_, rfl⟩
            have hM := s_lt hM y17 ey17
            refine lv_iinc (v := y17) (lv' := [(3, .int y17), (2, .int x3), (0, .ref q_t), (1, .int p_p), (4, .int x4), (5, .int x5)]) hx hb dX9_calm_126 hl (k := 3) rfl (by rw [ey17]; rfl) (Nat.le_of_ble_eq_true rfl) rfl (fun ls hl => ?_)
            refine lv_goto (tgt := 62) hx hb dX9_calm_129 (by decide) ?_
            exact ih.1 x3 y17 t_queueMany t_servedNow t_doneAt t_comes t_queueNow t_servedAt t_comesWas (s_jp hM) _ _ hP hD hS _ (lv_sub hl [2, 3, 1, 0] rfl)
          · have hM := (s_if hM).2 c16
            refine lv_bipush (v := (-9)) hx hb dX9_calm_119 (by decide) ?_
            refine lv_goto (tgt := 125) hx hb dX9_calm_121 (by decide) ?_
            refine lv_istore_n (lv' := [(2, .int (-9)), (0, .ref q_t), (1, .int p_p), (3, .int x3), (4, .int x4), (5, .int x5)]) hx hb dX9_calm_125 rfl hl (Nat.le_of_ble_eq_true rfl) rfl (fun ls hl => ?_)
            obtain ⟨y18, ey18⟩ : ∃ y : Int32, y = x3 + 1 := ⟨_, rfl⟩
            have hM := s_lt hM y18 ey18
            refine lv_iinc (v := y18) (lv' := [(3, .int y18), (2, .int (-9)), (0, .ref q_t), (1, .int p_p), (4, .int x4), (5, .int x5)]) hx hb dX9_calm_126 hl (k := 3) rfl (by rw [ey18]; rfl) (Nat.le_of_ble_eq_true rfl) rfl (fun ls hl => ?_)
            refine lv_goto (tgt := 62) hx hb dX9_calm_129 (by decide) ?_
            exact ih.1 (-9) y18 t_queueMany t_servedNow t_doneAt t_comes t_queueNow t_servedAt t_comesWas (s_jp hM) _ _ hP hD hS _ (lv_sub hl [2, 3, 1, 0] rfl)
        · have hM := (s_if hM).2 c15
          refine lv_aload_n hx hb dX9_calm_87 rfl (lv_at hl 0 rfl) ?_
          refine lv_iload hx hb dX9_calm_88 (lv_at hl 4 rfl) ?_
          obtain ⟨y19, h20, hM⟩ := s_bd hM
          refine af_i (ws2 := (w_Mo_calm cI cJ cS q_t q_t_kindOf q_t_comes q_t_wants q_t_runs q_t_readKind q_t_readComes q_t_readWants q_t_queueNow q_t_servedAt q_t_comesWas q_t_readingOf q_t_readingAt q_t_sheetSize q_t_sheetLane q_t_sheet q_t_hands t_fault t_persons t_law t_bellSet t_readAt t_readLaw t_readMany y19.2.1 y19.2.2.1 y19.2.2.2.1 t_readings t_whichMany t_whichOne t_whichTwo t_traceNow t_kindOf y19.2.2.2.2.1 t_wants t_runs y19.2.2.2.2.2.1 y19.2.2.2.2.2.2 t_comesWas)) (va_runV (As := [.int x5]) (rest := []) ⟨hx, hb, hml, hown, hts⟩ (c_Mo_settles l D cI cJ cS q_t q_t_kindOf q_t_comes q_t_wants q_t_runs q_t_readKind q_t_readComes q_t_readWants q_t_queueNow q_t_servedAt q_t_comesWas q_t_readingOf q_t_readingAt q_t_sheetSize q_t_sheetLane q_t_sheet q_t_hands t_fault t_persons t_law t_bellSet t_readAt t_readLaw t_readMany t_queueMany t_servedNow t_doneAt t_readings t_whichMany t_whichOne t_whichTwo t_traceNow t_kindOf t_comes t_wants t_runs t_queueNow t_servedAt x5 y19 h20 _) (cwV 1 hts gX9_calm_X9_settles rfl rfl rfl (by decide +kernel) ⟨(Nat.le_of_ble_eq_true rfl), (Nat.le_of_ble_eq_true rfl)⟩) (pre_V hK hP hD [0, 1, 2, 3, 4, 5, 6] rfl rfl rfl rfl) rfl rfl hl.1 rfl (lv_room (Nat.le_of_ble_eq_true rfl)) dX9_calm_90 ⟨Nat.zero_le _, Nat.zero_le _⟩) hP hD hS hA [0, 1, 2, 3, 4, 5, 6] [7] [1, 2, 3, 4, 5, 6, 7, 0] rfl rfl rfl (by decide) rfl rfl (fun H locs hP hD hS => ?_)
          refine lv_if_ne (tgt := 101) hx hb dX9_calm_93 (by decide) (fun c21 => ?_) (fun c21 => ?_)
          · have hM := (s_if hM).2 c21
            refine lv_iconst (v := 1) hx hb dX9_calm_101 (by decide) ?_
            refine lv_goto (tgt := 106) hx hb dX9_calm_102 (by decide) ?_
            refine lv_istore (lv' := [(4, .int 1), (0, .ref q_t), (1, .int p_p), (3, .int x3), (5, .int x5)]) hx hb dX9_calm_106 hl (Nat.le_of_ble_eq_true rfl) rfl (fun ls hl => ?_)
            obtain ⟨y22, ey22⟩ : ∃ y : Int32, y = x5 + 1 := ⟨_, rfl⟩
            have hM := s_lt hM y22 ey22
            refine lv_iinc (v := y22) (lv' := [(5, .int y22), (4, .int 1), (0, .ref q_t), (1, .int p_p), (3, .int x3)]) hx hb dX9_calm_108 hl (k := 4) rfl (by rw [ey22]; rfl) (Nat.le_of_ble_eq_true rfl) rfl (fun ls hl => ?_)
            refine lv_goto (tgt := 78) hx hb dX9_calm_111 (by decide) ?_
            exact ih.2 x3 1 y22 y19.2.1 y19.2.2.1 y19.2.2.2.1 y19.2.2.2.2.1 y19.2.2.2.2.2.1 y19.2.2.2.2.2.2 t_comesWas (s_jp hM) _ _ hP hD hS _ (lv_sub hl [2, 3, 4, 1, 0] rfl)
          · have hM := (s_if hM).1 c21
            refine lv_iload hx hb dX9_calm_96 (lv_at hl 3 rfl) ?_
            refine lv_if_eq (tgt := 105) hx hb dX9_calm_98 (by decide) (fun c23 => ?_) (fun c23 => ?_)
            · have hM := (s_if hM).1 c23
              refine lv_iconst (v := 0) hx hb dX9_calm_105 (by decide) ?_
              refine lv_istore (lv' := [(4, .int 0), (0, .ref q_t), (1, .int p_p), (3, .int x3), (5, .int x5)]) hx hb dX9_calm_106 hl (Nat.le_of_ble_eq_true rfl) rfl (fun ls hl => ?_)
              obtain ⟨y24, ey24⟩ : ∃ y : Int32, y = x5 + 1 := ⟨_, rfl⟩
              have hM := s_lt hM y24 ey24
              refine lv_iinc (v := y24) (lv' := [(5, .int y24), (4, .int 0), (0, .ref q_t), (1, .int p_p), (3, .int x3)]) hx hb dX9_calm_108 hl (k := 4) rfl (by rw [ey24]; rfl) (Nat.le_of_ble_eq_true rfl) rfl (fun ls hl => ?_)
              refine lv_goto (tgt := 78) hx hb dX9_calm_111 (by decide) ?_
              exact ih.2 x3 0 y24 y19.2.1 y19.2.2.1 y19.2.2.2.1 y19.2.2.2.2.1 y19.2.2.2.2.2.1 y19.2.2.2.2.2.2 t_comesWas (s_jp hM) _ _ hP hD hS _ (lv_sub hl [2, 3, 4, 1, 0] rfl)
            · have hM := (s_if hM).2 c23
              refine lv_iconst (v := 1) hx hb dX9_calm_101 (by decide) ?_
              refine lv_goto (tgt := 106) hx hb dX9_calm_102 (by decide) ?_
              refine lv_istore (lv' := [(4, .int 1), (0, .ref q_t), (1, .int p_p), (3, .int x3), (5, .int x5)]) hx hb dX9_calm_106 hl (Nat.le_of_ble_eq_true rfl) rfl (fun ls hl => ?_)
              obtain ⟨y25, ey25⟩ : ∃ y : Int32, y = x5 + 1 := ⟨_, rfl⟩
              have hM := s_lt hM y25 ey25
              refine lv_iinc (v := y25) (lv' := [(5, .int y25), (4, .int 1), (0, .ref q_t), (1, .int p_p), (3, .int x3)]) hx hb dX9_calm_108 hl (k := 4) rfl (by rw [ey25]; rfl) (Nat.le_of_ble_eq_true rfl) rfl (fun ls hl => ?_)
              refine lv_goto (tgt := 78) hx hb dX9_calm_111 (by decide) ?_
              exact ih.2 x3 1 y25 y19.2.1 y19.2.2.1 y19.2.2.2.1 y19.2.2.2.2.1 y19.2.2.2.2.2.1 y19.2.2.2.2.2.2 t_comesWas (s_jp hM) _ _ hP hD hS _ (lv_sub hl [2, 3, 4, 1, 0] rfl)
  have J62 : ∀ (x2 : Int32) (x3 : Int32) (t_queueMany : Int32) (t_servedNow : Int32) (t_doneAt : Int32) (t_comes : Nat → Int32) (t_queueNow : Nat → Int32) (t_servedAt : Nat → Int32) (t_comesWas : Nat → Int32), Mo_calm_l62 p_p t_persons t_law t_bellSet t_kindOf t_wants t_runs x2 x3 t_queueMany t_servedNow t_doneAt t_comes t_queueNow t_servedAt t_comesWas = some o → ∀ (H : Heap) (locs : List Loc), va_P D vwCl (w_Mo_calm cI cJ cS q_t q_t_kindOf q_t_comes q_t_wants q_t_runs q_t_readKind q_t_readComes q_t_readWants q_t_queueNow q_t_servedAt q_t_comesWas q_t_readingOf q_t_readingAt q_t_sheetSize q_t_sheetLane q_t_sheet q_t_hands t_fault t_persons t_law t_bellSet t_readAt t_readLaw t_readMany t_queueMany t_servedNow t_doneAt t_readings t_whichMany t_whichOne t_whichTwo t_traceNow t_kindOf t_comes t_wants t_runs t_queueNow t_servedAt t_comesWas) H → va_D A (w_Mo_calm cI cJ cS q_t q_t_kindOf q_t_comes q_t_wants q_t_runs q_t_readKind q_t_readComes q_t_readWants q_t_queueNow q_t_servedAt q_t_comesWas q_t_readingOf q_t_readingAt q_t_sheetSize q_t_sheetLane q_t_sheet q_t_hands t_fault t_persons t_law t_bellSet t_readAt t_readLaw t_readMany t_queueMany t_servedNow t_doneAt t_readings t_whichMany t_whichOne t_whichTwo t_traceNow t_kindOf t_comes t_wants t_runs t_queueNow t_servedAt t_comesWas) → va_S A s.heap H locs → ∀ ls : Array Slot, lv_has ls 6 [(0, .ref q_t), (1, .int p_p), (2, .int x2), (3, .int x3)] → W p l e (headSpec wsX9_calm rm_Mo_calm).room s m args below meth c H locs 0 0 (MQ below (CQi D (w_Mo_calm cI cJ cS q_t q_t_kindOf q_t_comes q_t_wants q_t_runs q_t_readKind q_t_readComes q_t_readWants q_t_queueNow q_t_servedAt q_t_comesWas q_t_readingOf q_t_readingAt q_t_sheetSize q_t_sheetLane q_t_sheet q_t_hands t_fault t_persons t_law t_bellSet t_readAt t_readLaw t_readMany o.2.1 o.2.2.1 o.2.2.2.1 t_readings t_whichMany t_whichOne t_whichTwo t_traceNow t_kindOf o.2.2.2.2.1 t_wants t_runs o.2.2.2.2.2.1 o.2.2.2.2.2.2.1 o.2.2.2.2.2.2.2) A o.1) args s 0 0 A) (F0 m 62 ls []) := by
    intro x2 x3 t_queueMany t_servedNow t_doneAt t_comes t_queueNow t_servedAt t_comesWas hM
    unfold Mo_calm_l62 at hM
    obtain ⟨n0, hM⟩ := fin_some hM
    exact (L62 n0).1 x2 x3 t_queueMany t_servedNow t_doneAt t_comes t_queueNow t_servedAt t_comesWas hM
  have J78 : ∀ (x3 : Int32) (x4 : Int32) (x5 : Int32) (t_queueMany : Int32) (t_servedNow : Int32) (t_doneAt : Int32) (t_comes : Nat → Int32) (t_queueNow : Nat → Int32) (t_servedAt : Nat → Int32) (t_comesWas : Nat → Int32), Mo_calm_l78 p_p t_persons t_law t_bellSet t_kindOf t_wants t_runs x3 x4 x5 t_queueMany t_servedNow t_doneAt t_comes t_queueNow t_servedAt t_comesWas = some o → ∀ (H : Heap) (locs : List Loc), va_P D vwCl (w_Mo_calm cI cJ cS q_t q_t_kindOf q_t_comes q_t_wants q_t_runs q_t_readKind q_t_readComes q_t_readWants q_t_queueNow q_t_servedAt q_t_comesWas q_t_readingOf q_t_readingAt q_t_sheetSize q_t_sheetLane q_t_sheet q_t_hands t_fault t_persons t_law t_bellSet t_readAt t_readLaw t_readMany t_queueMany t_servedNow t_doneAt t_readings t_whichMany t_whichOne t_whichTwo t_traceNow t_kindOf t_comes t_wants t_runs t_queueNow t_servedAt t_comesWas) H → va_D A (w_Mo_calm cI cJ cS q_t q_t_kindOf q_t_comes q_t_wants q_t_runs q_t_readKind q_t_readComes q_t_readWants q_t_queueNow q_t_servedAt q_t_comesWas q_t_readingOf q_t_readingAt q_t_sheetSize q_t_sheetLane q_t_sheet q_t_hands t_fault t_persons t_law t_bellSet t_readAt t_readLaw t_readMany t_queueMany t_servedNow t_doneAt t_readings t_whichMany t_whichOne t_whichTwo t_traceNow t_kindOf t_comes t_wants t_runs t_queueNow t_servedAt t_comesWas) → va_S A s.heap H locs → ∀ ls : Array Slot, lv_has ls 6 [(0, .ref q_t), (1, .int p_p), (3, .int x3), (4, .int x4), (5, .int x5)] → W p l e (headSpec wsX9_calm rm_Mo_calm).room s m args below meth c H locs 0 0 (MQ below (CQi D (w_Mo_calm cI cJ cS q_t q_t_kindOf q_t_comes q_t_wants q_t_runs q_t_readKind q_t_readComes q_t_readWants q_t_queueNow q_t_servedAt q_t_comesWas q_t_readingOf q_t_readingAt q_t_sheetSize q_t_sheetLane q_t_sheet q_t_hands t_fault t_persons t_law t_bellSet t_readAt t_readLaw t_readMany o.2.1 o.2.2.1 o.2.2.2.1 t_readings t_whichMany t_whichOne t_whichTwo t_traceNow t_kindOf o.2.2.2.2.1 t_wants t_runs o.2.2.2.2.2.1 o.2.2.2.2.2.2.1 o.2.2.2.2.2.2.2) A o.1) args s 0 0 A) (F0 m 78 ls []) := by
    intro x3 x4 x5 t_queueMany t_servedNow t_doneAt t_comes t_queueNow t_servedAt t_comesWas hM
    unfold Mo_calm_l78 at hM
    obtain ⟨n0, hM⟩ := fin_some hM
    exact (L62 n0).2 x3 x4 x5 t_queueMany t_servedNow t_doneAt t_comes t_queueNow t_servedAt t_comesWas hM
  have L31 : ∀ n : Nat, (∀ (x2 : Int32) (t_queueMany : Int32) (t_servedNow : Int32) (t_doneAt : Int32) (t_comes : Nat → Int32) (t_queueNow : Nat → Int32) (t_servedAt : Nat → Int32) (t_comesWas : Nat → Int32), itr (Mo_calm_s31 p_p t_persons t_law t_bellSet t_kindOf t_wants t_runs) n (x2, t_queueMany, t_servedNow, t_doneAt, t_comes, t_queueNow, t_servedAt, t_comesWas) = some o → ∀ (H : Heap) (locs : List Loc), va_P D vwCl (w_Mo_calm cI cJ cS q_t q_t_kindOf q_t_comes q_t_wants q_t_runs q_t_readKind q_t_readComes q_t_readWants q_t_queueNow q_t_servedAt q_t_comesWas q_t_readingOf q_t_readingAt q_t_sheetSize q_t_sheetLane q_t_sheet q_t_hands t_fault t_persons t_law t_bellSet t_readAt t_readLaw t_readMany t_queueMany t_servedNow t_doneAt t_readings t_whichMany t_whichOne t_whichTwo t_traceNow t_kindOf t_comes t_wants t_runs t_queueNow t_servedAt t_comesWas) H → va_D A (w_Mo_calm cI cJ cS q_t q_t_kindOf q_t_comes q_t_wants q_t_runs q_t_readKind q_t_readComes q_t_readWants q_t_queueNow q_t_servedAt q_t_comesWas q_t_readingOf q_t_readingAt q_t_sheetSize q_t_sheetLane q_t_sheet q_t_hands t_fault t_persons t_law t_bellSet t_readAt t_readLaw t_readMany t_queueMany t_servedNow t_doneAt t_readings t_whichMany t_whichOne t_whichTwo t_traceNow t_kindOf t_comes t_wants t_runs t_queueNow t_servedAt t_comesWas) → va_S A s.heap H locs → ∀ ls : Array Slot, lv_has ls 6 [(0, .ref q_t), (1, .int p_p), (2, .int x2)] → W p l e (headSpec wsX9_calm rm_Mo_calm).room s m args below meth c H locs 0 0 (MQ below (CQi D (w_Mo_calm cI cJ cS q_t q_t_kindOf q_t_comes q_t_wants q_t_runs q_t_readKind q_t_readComes q_t_readWants q_t_queueNow q_t_servedAt q_t_comesWas q_t_readingOf q_t_readingAt q_t_sheetSize q_t_sheetLane q_t_sheet q_t_hands t_fault t_persons t_law t_bellSet t_readAt t_readLaw t_readMany o.2.1 o.2.2.1 o.2.2.2.1 t_readings t_whichMany t_whichOne t_whichTwo t_traceNow t_kindOf o.2.2.2.2.1 t_wants t_runs o.2.2.2.2.2.1 o.2.2.2.2.2.2.1 o.2.2.2.2.2.2.2) A o.1) args s 0 0 A) (F0 m 31 ls [])) := by
    intro n
    induction n with
    | zero => exact fun _ _ _ _ _ _ _ _ hM => (itr_0 hM).elim
    | succ n ih =>
      intro x2 t_queueMany t_servedNow t_doneAt t_comes t_queueNow t_servedAt t_comesWas hM H locs hP hD hS ls hl
      have hM : (Mo_calm_b31 p_p t_persons t_law t_bellSet t_kindOf t_wants t_runs x2 t_queueMany t_servedNow t_doneAt t_comes t_queueNow t_servedAt t_comesWas).bind (sg (itr (Mo_calm_s31 p_p t_persons t_law t_bellSet t_kindOf t_wants t_runs) n)) = some o := hM
      unfold Mo_calm_b31 at hM
      refine lv_iload_n hx hb dX9_calm_31 rfl (lv_at hl 2 rfl) ?_
      refine lv_aload_n hx hb dX9_calm_32 rfl (lv_at hl 0 rfl) ?_
      refine va_get (ci := 8) (v := .int t_persons) (C := RX9) (T := TX9) (N := 31) hx hb hts iX9 hown hK.1 hP 0 rfl rfl 1 (Nat.le_of_ble_eq_true rfl) k0 (fun _ h9 => h9) rfl dX9_calm_33 ?_
      refine lv_icmp_ge (tgt := 57) hx hb dX9_calm_36 (by decide) (fun c4 => ?_) (fun c4 => ?_)
      · have hM := (s_if hM).1 c4
        refine lv_bipush (v := (-9)) hx hb dX9_calm_57 (by decide) ?_
        refine lv_istore_n (lv' := [(2, .int (-9)), (0, .ref q_t), (1, .int p_p)]) hx hb dX9_calm_59 rfl hl (Nat.le_of_ble_eq_true rfl) rfl (fun ls hl => ?_)
        refine lv_iconst (v := 0) hx hb dX9_calm_60 (by decide) ?_
        refine lv_istore_n (lv' := [(3, .int 0), (2, .int (-9)), (0, .ref q_t), (1, .int p_p)]) hx hb dX9_calm_61 rfl hl (Nat.le_of_ble_eq_true rfl) rfl (fun ls hl => ?_)
        exact J62 (-9) 0 t_queueMany t_servedNow t_doneAt t_comes t_queueNow t_servedAt t_comesWas (s_ex hM) _ _ hP hD hS _ (lv_sub hl [2, 3, 1, 0] rfl)
      · have hM := (s_if hM).2 c4
        refine lv_aload_n hx hb dX9_calm_39 rfl (lv_at hl 0 rfl) ?_
        refine va_get (ci := 8) (v := .ref q_t_comesWas) (C := RX9) (T := TX9) (N := 31) hx hb hts iX9 hown hK.1 hP 0 rfl rfl 19 (Nat.le_of_ble_eq_true rfl) k2 (fun _ h9 => h9) rfl dX9_calm_40 ?_
        refine lv_iload_n hx hb dX9_calm_43 rfl (lv_at hl 2 rfl) ?_
        refine lv_aload_n hx hb dX9_calm_44 rfl (lv_at hl 0 rfl) ?_
        refine va_get (ci := 8) (v := .ref q_t_comes) (C := RX9) (T := TX9) (N := 31) hx hb hts iX9 hown hK.1 hP 0 rfl rfl 4 (Nat.le_of_ble_eq_true rfl) k1 (fun _ h9 => h9) rfl dX9_calm_45 ?_
        refine lv_iload_n hx hb dX9_calm_48 rfl (lv_at hl 2 rfl) ?_
        obtain ⟨h26, hM⟩ := s_ck hM
        refine va_iald hx hb hK.1 hP 2 0 rfl rfl h26 dX9_calm_49 ?_
        refine lv_topi (fun y27 ey27 => ?_)
        have hM := s_lt hM y27 ey27
        obtain ⟨h28, hM⟩ := s_ck hM
        refine va_iast hx hb hK.1 hP hD hS 7 0 rfl rfl h28 dX9_calm_50 (fun H locs hP hD hS => ?_)
        have hP : va_P D vwCl (w_Mo_calm cI cJ cS q_t q_t_kindOf q_t_comes q_t_wants q_t_runs q_t_readKind q_t_readComes q_t_readWants q_t_queueNow q_t_servedAt q_t_comesWas q_t_readingOf q_t_readingAt q_t_sheetSize q_t_sheetLane q_t_sheet q_t_hands t_fault t_persons t_law t_bellSet t_readAt t_readLaw t_readMany t_queueMany t_servedNow t_doneAt t_readings t_whichMany t_whichOne t_whichTwo t_traceNow t_kindOf t_comes t_wants t_runs t_queueNow t_servedAt (upd t_comesWas x2.toNatClampNeg y27)) H := hP
        have hD : va_D A (w_Mo_calm cI cJ cS q_t q_t_kindOf q_t_comes q_t_wants q_t_runs q_t_readKind q_t_readComes q_t_readWants q_t_queueNow q_t_servedAt q_t_comesWas q_t_readingOf q_t_readingAt q_t_sheetSize q_t_sheetLane q_t_sheet q_t_hands t_fault t_persons t_law t_bellSet t_readAt t_readLaw t_readMany t_queueMany t_servedNow t_doneAt t_readings t_whichMany t_whichOne t_whichTwo t_traceNow t_kindOf t_comes t_wants t_runs t_queueNow t_servedAt (upd t_comesWas x2.toNatClampNeg y27)) := hD
        obtain ⟨y29, ey29⟩ : ∃ y : Int32, y = x2 + 1 := ⟨_, rfl⟩
        have hM := s_lt hM y29 ey29
        refine lv_iinc (v := y29) (lv' := [(2, .int y29), (0, .ref q_t), (1, .int p_p)]) hx hb dX9_calm_51 hl (k := 2) rfl (by rw [ey29]; rfl) (Nat.le_of_ble_eq_true rfl) rfl (fun ls hl => ?_)
        refine lv_goto (tgt := 31) hx hb dX9_calm_54 (by decide) ?_
        exact ih y29 t_queueMany t_servedNow t_doneAt t_comes t_queueNow t_servedAt (upd t_comesWas x2.toNatClampNeg y27) (s_jp hM) _ _ hP hD hS _ (lv_sub hl [1, 2, 0] rfl)
  have J31 : ∀ (x2 : Int32) (t_queueMany : Int32) (t_servedNow : Int32) (t_doneAt : Int32) (t_comes : Nat → Int32) (t_queueNow : Nat → Int32) (t_servedAt : Nat → Int32) (t_comesWas : Nat → Int32), Mo_calm_l31 p_p t_persons t_law t_bellSet t_kindOf t_wants t_runs x2 t_queueMany t_servedNow t_doneAt t_comes t_queueNow t_servedAt t_comesWas = some o → ∀ (H : Heap) (locs : List Loc), va_P D vwCl (w_Mo_calm cI cJ cS q_t q_t_kindOf q_t_comes q_t_wants q_t_runs q_t_readKind q_t_readComes q_t_readWants q_t_queueNow q_t_servedAt q_t_comesWas q_t_readingOf q_t_readingAt q_t_sheetSize q_t_sheetLane q_t_sheet q_t_hands t_fault t_persons t_law t_bellSet t_readAt t_readLaw t_readMany t_queueMany t_servedNow t_doneAt t_readings t_whichMany t_whichOne t_whichTwo t_traceNow t_kindOf t_comes t_wants t_runs t_queueNow t_servedAt t_comesWas) H → va_D A (w_Mo_calm cI cJ cS q_t q_t_kindOf q_t_comes q_t_wants q_t_runs q_t_readKind q_t_readComes q_t_readWants q_t_queueNow q_t_servedAt q_t_comesWas q_t_readingOf q_t_readingAt q_t_sheetSize q_t_sheetLane q_t_sheet q_t_hands t_fault t_persons t_law t_bellSet t_readAt t_readLaw t_readMany t_queueMany t_servedNow t_doneAt t_readings t_whichMany t_whichOne t_whichTwo t_traceNow t_kindOf t_comes t_wants t_runs t_queueNow t_servedAt t_comesWas) → va_S A s.heap H locs → ∀ ls : Array Slot, lv_has ls 6 [(0, .ref q_t), (1, .int p_p), (2, .int x2)] → W p l e (headSpec wsX9_calm rm_Mo_calm).room s m args below meth c H locs 0 0 (MQ below (CQi D (w_Mo_calm cI cJ cS q_t q_t_kindOf q_t_comes q_t_wants q_t_runs q_t_readKind q_t_readComes q_t_readWants q_t_queueNow q_t_servedAt q_t_comesWas q_t_readingOf q_t_readingAt q_t_sheetSize q_t_sheetLane q_t_sheet q_t_hands t_fault t_persons t_law t_bellSet t_readAt t_readLaw t_readMany o.2.1 o.2.2.1 o.2.2.2.1 t_readings t_whichMany t_whichOne t_whichTwo t_traceNow t_kindOf o.2.2.2.2.1 t_wants t_runs o.2.2.2.2.2.1 o.2.2.2.2.2.2.1 o.2.2.2.2.2.2.2) A o.1) args s 0 0 A) (F0 m 31 ls []) := by
    intro x2 t_queueMany t_servedNow t_doneAt t_comes t_queueNow t_servedAt t_comesWas hM
    unfold Mo_calm_l31 at hM
    obtain ⟨n0, hM⟩ := fin_some hM
    exact (L31 n0) x2 t_queueMany t_servedNow t_doneAt t_comes t_queueNow t_servedAt t_comesWas hM
  have J19 : ∀ (t_queueMany : Int32) (t_servedNow : Int32) (t_doneAt : Int32) (t_comes : Nat → Int32) (t_queueNow : Nat → Int32) (t_servedAt : Nat → Int32) (t_comesWas : Nat → Int32), Mo_calm_j19 p_p t_persons t_law t_bellSet t_kindOf t_wants t_runs t_queueMany t_servedNow t_doneAt t_comes t_queueNow t_servedAt t_comesWas = some o → ∀ (H : Heap) (locs : List Loc), va_P D vwCl (w_Mo_calm cI cJ cS q_t q_t_kindOf q_t_comes q_t_wants q_t_runs q_t_readKind q_t_readComes q_t_readWants q_t_queueNow q_t_servedAt q_t_comesWas q_t_readingOf q_t_readingAt q_t_sheetSize q_t_sheetLane q_t_sheet q_t_hands t_fault t_persons t_law t_bellSet t_readAt t_readLaw t_readMany t_queueMany t_servedNow t_doneAt t_readings t_whichMany t_whichOne t_whichTwo t_traceNow t_kindOf t_comes t_wants t_runs t_queueNow t_servedAt t_comesWas) H → va_D A (w_Mo_calm cI cJ cS q_t q_t_kindOf q_t_comes q_t_wants q_t_runs q_t_readKind q_t_readComes q_t_readWants q_t_queueNow q_t_servedAt q_t_comesWas q_t_readingOf q_t_readingAt q_t_sheetSize q_t_sheetLane q_t_sheet q_t_hands t_fault t_persons t_law t_bellSet t_readAt t_readLaw t_readMany t_queueMany t_servedNow t_doneAt t_readings t_whichMany t_whichOne t_whichTwo t_traceNow t_kindOf t_comes t_wants t_runs t_queueNow t_servedAt t_comesWas) → va_S A s.heap H locs → ∀ ls : Array Slot, lv_has ls 6 [(0, .ref q_t), (1, .int p_p)] → W p l e (headSpec wsX9_calm rm_Mo_calm).room s m args below meth c H locs 0 0 (MQ below (CQi D (w_Mo_calm cI cJ cS q_t q_t_kindOf q_t_comes q_t_wants q_t_runs q_t_readKind q_t_readComes q_t_readWants q_t_queueNow q_t_servedAt q_t_comesWas q_t_readingOf q_t_readingAt q_t_sheetSize q_t_sheetLane q_t_sheet q_t_hands t_fault t_persons t_law t_bellSet t_readAt t_readLaw t_readMany o.2.1 o.2.2.1 o.2.2.2.1 t_readings t_whichMany t_whichOne t_whichTwo t_traceNow t_kindOf o.2.2.2.2.1 t_wants t_runs o.2.2.2.2.2.1 o.2.2.2.2.2.2.1 o.2.2.2.2.2.2.2) A o.1) args s 0 0 A) (F0 m 19 ls []) := by
    intro t_queueMany t_servedNow t_doneAt t_comes t_queueNow t_servedAt t_comesWas hM H locs hP hD hS ls hl
    unfold Mo_calm_j19 at hM
    refine lv_aload_n hx hb dX9_calm_19 rfl (lv_at hl 0 rfl) ?_
    refine va_get (ci := 8) (v := .int t_persons) (C := RX9) (T := TX9) (N := 31) hx hb hts iX9 hown hK.1 hP 0 rfl rfl 1 (Nat.le_of_ble_eq_true rfl) k0 (fun _ h9 => h9) rfl dX9_calm_20 ?_
    refine lv_if_ne (tgt := 29) hx hb dX9_calm_23 (by decide) (fun c3 => ?_) (fun c3 => ?_)
    · have hM := (o_if hM).2 c3
      refine lv_iconst (v := 0) hx hb dX9_calm_29 (by decide) ?_
      refine lv_istore_n (lv' := [(2, .int 0), (0, .ref q_t), (1, .int p_p)]) hx hb dX9_calm_30 rfl hl (Nat.le_of_ble_eq_true rfl) rfl (fun ls hl => ?_)
      exact J31 0 t_queueMany t_servedNow t_doneAt t_comes t_queueNow t_servedAt t_comesWas hM _ _ hP hD hS _ (lv_sub hl [1, 2, 0] rfl)
    · have hM := (o_if hM).1 c3
      refine lv_bipush (v := (-3)) hx hb dX9_calm_26 (by decide) ?_
      have hM := (Option.some.inj hM)
      subst hM
      exact rt_i hx hb hr hlocks hP hD hS dX9_calm_28
  unfold Mo_calm at hM
  refine lv_iload_n hx hb dX9_calm_0 rfl (lv_at hl 1 rfl) ?_
  refine lv_iconst (v := (-1)) hx hb dX9_calm_1 (by decide) ?_
  refine lv_icmp_lt (tgt := 17) hx hb dX9_calm_2 (by decide) (fun c1 => ?_) (fun c1 => ?_)
  · have hM := (o_if hM).1 c1
    refine lv_iconst (v := (-1)) hx hb dX9_calm_17 (by decide) ?_
    have hM := (Option.some.inj hM)
    subst hM
    exact rt_i hx hb hr hlocks hP hD hS dX9_calm_18
  · have hM := (o_if hM).2 c1
    refine lv_iload_n hx hb dX9_calm_5 rfl (lv_at hl 1 rfl) ?_
    refine lv_if_lt (tgt := 19) hx hb dX9_calm_6 (by decide) (fun c2 => ?_) (fun c2 => ?_)
    · have hM := (o_if hM).1 c2
      exact J19 t_queueMany t_servedNow t_doneAt t_comes t_queueNow t_servedAt t_comesWas hM _ _ hP hD hS _ (lv_sub hl [0, 1] rfl)
    · have hM := (o_if hM).2 c2
      refine lv_aload_n hx hb dX9_calm_9 rfl (lv_at hl 0 rfl) ?_
      refine lv_iload_n hx hb dX9_calm_10 rfl (lv_at hl 1 rfl) ?_
      obtain ⟨y30, h31, hM⟩ := o_bd hM
      refine af_i (ws2 := (w_Mo_calm cI cJ cS q_t q_t_kindOf q_t_comes q_t_wants q_t_runs q_t_readKind q_t_readComes q_t_readWants q_t_queueNow q_t_servedAt q_t_comesWas q_t_readingOf q_t_readingAt q_t_sheetSize q_t_sheetLane q_t_sheet q_t_hands t_fault t_persons t_law t_bellSet t_readAt t_readLaw t_readMany t_queueMany t_servedNow t_doneAt t_readings t_whichMany t_whichOne t_whichTwo t_traceNow t_kindOf t_comes t_wants t_runs t_queueNow t_servedAt t_comesWas)) (va_runV (As := [.int p_p]) (rest := []) ⟨hx, hb, hml, hown, hts⟩ (c_Mo_noPerson l D cI cJ cS q_t q_t_kindOf q_t_comes q_t_wants q_t_runs q_t_readKind q_t_readComes q_t_readWants q_t_queueNow q_t_servedAt q_t_comesWas q_t_readingOf q_t_readingAt q_t_sheetSize q_t_sheetLane q_t_sheet q_t_hands t_fault t_persons t_law t_bellSet t_readAt t_readLaw t_readMany t_queueMany t_servedNow t_doneAt t_readings t_whichMany t_whichOne t_whichTwo t_traceNow p_p y30 h31 _) (cwV 1 hts gX9_calm_X9_noPerson rfl rfl rfl (by decide +kernel) ⟨(Nat.le_of_ble_eq_true rfl), (Nat.le_of_ble_eq_true rfl)⟩) (pre_V hK hP hD [0] rfl rfl rfl rfl) rfl rfl hl.1 rfl (lv_room (Nat.le_of_ble_eq_true rfl)) dX9_calm_11 ⟨Nat.zero_le _, Nat.zero_le _⟩) hP hD hS hA [0] [1, 2, 3, 4, 5, 6, 7] [7, 0, 1, 2, 3, 4, 5, 6] rfl rfl rfl (by decide) rfl rfl (fun H locs hP hD hS => ?_)
      refine lv_if_eq (tgt := 19) hx hb dX9_calm_14 (by decide) (fun c32 => ?_) (fun c32 => ?_)
      · have hM := (o_if hM).1 c32
        exact J19 t_queueMany t_servedNow t_doneAt t_comes t_queueNow t_servedAt t_comesWas hM _ _ hP hD hS _ (lv_sub hl [0, 1] rfl)
      · have hM := (o_if hM).2 c32
        refine lv_iconst (v := (-1)) hx hb dX9_calm_17 (by decide) ?_
        have hM := (Option.some.inj hM)
        subst hM
        exact rt_i hx hb hr hlocks hP hD hS dX9_calm_18
/-! ===== TurnQueueModel.servedBy ===== -/
abbrev w_Mo_servedBy (cI cJ cS : ClassId) (q_t : Nat) (q_t_kindOf : Nat) (q_t_comes : Nat) (q_t_wants : Nat) (q_t_runs : Nat) (q_t_readKind : Nat) (q_t_readComes : Nat) (q_t_readWants : Nat) (q_t_queueNow : Nat) (q_t_servedAt : Nat) (q_t_comesWas : Nat) (q_t_readingOf : Nat) (q_t_readingAt : Nat) (q_t_sheetSize : Nat) (q_t_sheetLane : Nat) (q_t_sheet : Nat) (q_t_hands : Nat) (t_fault : Int32) (t_persons : Int32) (t_law : Int32) (t_bellSet : Int64) (t_readAt : Int32) (t_readLaw : Int32) (t_readMany : Int32) (t_queueMany : Int32) (t_servedNow : Int32) (t_doneAt : Int32) (t_readings : Int32) (t_whichMany : Int32) (t_whichOne : Int32) (t_whichTwo : Int32) (t_traceNow : Int32) (t_kindOf : Nat → Int32) (t_comes : Nat → Int32) (t_wants : Nat → Int32) (t_runs : Nat → Int32) (t_queueNow : Nat → Int32) (t_servedAt : Nat → Int32) : va_W := [(q_t, .inr (8, [.int t_fault, .int t_persons, .int t_law, .ref q_t_kindOf, .ref q_t_comes, .ref q_t_wants, .ref q_t_runs, .long t_bellSet, .int t_readAt, .int t_readLaw, .int t_readMany, .ref q_t_readKind, .ref q_t_readComes, .ref q_t_readWants, .ref q_t_queueNow, .int t_queueMany, .int t_servedNow, .int t_doneAt, .ref q_t_servedAt, .ref q_t_comesWas, .int t_readings, .ref q_t_readingOf, .ref q_t_readingAt, .int t_whichMany, .int t_whichOne, .int t_whichTwo, .ref q_t_sheetSize, .ref q_t_sheetLane, .ref q_t_sheet, .ref q_t_hands, .int t_traceNow])), (q_t_kindOf, ar cI 7 t_kindOf), (q_t_comes, ar cI 7 t_comes), (q_t_wants, ar cI 7 t_wants), (q_t_runs, ar cI 7 t_runs), (q_t_queueNow, ar cI 7 t_queueNow), (q_t_servedAt, ar cI 7 t_servedAt)]
abbrev rm_Mo_servedBy : Room := { frames := 4, cells := 0, slots := 0, locals := 94 }
noncomputable def Mo_servedBy (p_p : Int32) (p_set : Int64) (t_persons : Int32) (t_law : Int32) (t_kindOf : Nat → Int32) (t_comes : Nat → Int32) (t_wants : Nat → Int32) (t_runs : Nat → Int32) (t_queueMany : Int32) (t_servedNow : Int32) (t_doneAt : Int32) (t_queueNow : Nat → Int32) (t_servedAt : Nat → Int32) : Option (Int32 × Int32 × Int32 × Int32 × (Nat → Int32) × (Nat → Int32)) :=
  (Mo_all t_persons).bind fun y1 =>
  (Mo_goDay y1 p_set t_persons t_law t_kindOf t_comes t_wants t_runs t_queueMany t_servedNow t_doneAt t_queueNow t_servedAt).bind fun y3 =>
  if ck p_p 7 = true then
    some (y3.2.2.2.2 p_p.toNatClampNeg, y3.1, y3.2.1, y3.2.2.1, y3.2.2.2.1, y3.2.2.2.2)
  else none
set_option maxRecDepth 100000 in
set_option maxHeartbeats 4000000 in
theorem c_Mo_servedBy (l : Launch) (D : va_G) (cI cJ cS : ClassId) (q_t q_t_kindOf q_t_comes q_t_wants q_t_runs q_t_readKind q_t_readComes q_t_readWants q_t_queueNow q_t_servedAt q_t_comesWas q_t_readingOf q_t_readingAt q_t_sheetSize q_t_sheetLane q_t_sheet q_t_hands : Nat) (t_fault : Int32) (t_persons : Int32) (t_law : Int32) (t_bellSet : Int64) (t_readAt : Int32) (t_readLaw : Int32) (t_readMany : Int32) (t_queueMany : Int32) (t_servedNow : Int32) (t_doneAt : Int32) (t_readings : Int32) (t_whichMany : Int32) (t_whichOne : Int32) (t_whichTwo : Int32) (t_traceNow : Int32) (t_kindOf : Nat → Int32) (t_comes : Nat → Int32) (t_wants : Nat → Int32) (t_runs : Nat → Int32) (t_queueNow : Nat → Int32) (t_servedAt : Nat → Int32) (p_p : Int32) (p_set : Int64) (o : Int32 × Int32 × Int32 × Int32 × (Nat → Int32) × (Nat → Int32)) (hM : Mo_servedBy p_p p_set t_persons t_law t_kindOf t_comes t_wants t_runs t_queueMany t_servedNow t_doneAt t_queueNow t_servedAt = some o) : Ci l yX9_servedBy wsX9_servedBy rm_Mo_servedBy D cI cJ cS [.ref q_t, .int p_p, .long p_set] (w_Mo_servedBy cI cJ cS q_t q_t_kindOf q_t_comes q_t_wants q_t_runs q_t_readKind q_t_readComes q_t_readWants q_t_queueNow q_t_servedAt q_t_comesWas q_t_readingOf q_t_readingAt q_t_sheetSize q_t_sheetLane q_t_sheet q_t_hands t_fault t_persons t_law t_bellSet t_readAt t_readLaw t_readMany t_queueMany t_servedNow t_doneAt t_readings t_whichMany t_whichOne t_whichTwo t_traceNow t_kindOf t_comes t_wants t_runs t_queueNow t_servedAt) (w_Mo_servedBy cI cJ cS q_t q_t_kindOf q_t_comes q_t_wants q_t_runs q_t_readKind q_t_readComes q_t_readWants q_t_queueNow q_t_servedAt q_t_comesWas q_t_readingOf q_t_readingAt q_t_sheetSize q_t_sheetLane q_t_sheet q_t_hands t_fault t_persons t_law t_bellSet t_readAt t_readLaw t_readMany o.2.1 o.2.2.1 o.2.2.2.1 t_readings t_whichMany t_whichOne t_whichTwo t_traceNow t_kindOf t_comes t_wants t_runs o.2.2.2.2.1 o.2.2.2.2.2) o.1 := by
  refine Ci.of (cc := cX9_servedBy) (maxL := 4) (ret := (some .int)) (by decide) rfl (Nat.le_of_ble_eq_true rfl) ?_
  intro p e s m args below meth c A ls hE
  obtain ⟨hx, hb, hr, hml, hown, hts, hlocks, hK, hA, hP, hD, hS, hl⟩ := hE
  have hown : s.vm.findClass RX9 = some m.cls := hown
  have hl : lv_has ls 4 [(0, .ref q_t), (1, .int p_p), (2, .long p_set)] := hl
  have iX9 : ∀ w ∈ u_ws RX9 TX9 31, w ∈ wsX9_servedBy := by decide +kernel
  have k0 := hts (.fieldLink RX9 34 "TurnQueueModel" "servedAt" "[I") (by decide +kernel)
  unfold Mo_servedBy at hM
  refine lv_aload_n hx hb dX9_servedBy_0 rfl (lv_at hl 0 rfl) ?_
  refine lv_aload_n hx hb dX9_servedBy_1 rfl (lv_at hl 0 rfl) ?_
  obtain ⟨y1, h2, hM⟩ := o_bd hM
  refine af_i (ws2 := (w_Mo_servedBy cI cJ cS q_t q_t_kindOf q_t_comes q_t_wants q_t_runs q_t_readKind q_t_readComes q_t_readWants q_t_queueNow q_t_servedAt q_t_comesWas q_t_readingOf q_t_readingAt q_t_sheetSize q_t_sheetLane q_t_sheet q_t_hands t_fault t_persons t_law t_bellSet t_readAt t_readLaw t_readMany t_queueMany t_servedNow t_doneAt t_readings t_whichMany t_whichOne t_whichTwo t_traceNow t_kindOf t_comes t_wants t_runs t_queueNow t_servedAt)) (va_runV (As := []) (rest := [.ref q_t]) ⟨hx, hb, hml, hown, hts⟩ (c_Mo_all l D cI cJ cS q_t q_t_kindOf q_t_comes q_t_wants q_t_runs q_t_readKind q_t_readComes q_t_readWants q_t_queueNow q_t_servedAt q_t_comesWas q_t_readingOf q_t_readingAt q_t_sheetSize q_t_sheetLane q_t_sheet q_t_hands t_fault t_persons t_law t_bellSet t_readAt t_readLaw t_readMany t_queueMany t_servedNow t_doneAt t_readings t_whichMany t_whichOne t_whichTwo t_traceNow y1 h2 _) (cwV 0 hts gX9_servedBy_X9_all rfl rfl rfl (by decide +kernel) ⟨(Nat.le_of_ble_eq_true rfl), (Nat.le_of_ble_eq_true rfl)⟩) (pre_V hK hP hD [0] rfl rfl rfl rfl) rfl rfl hl.1 rfl (lv_room (Nat.le_of_ble_eq_true rfl)) dX9_servedBy_2 ⟨Nat.zero_le _, Nat.zero_le _⟩) hP hD hS hA [0] [1, 2, 3, 4, 5, 6] [6, 0, 1, 2, 3, 4, 5] rfl rfl rfl (by decide) rfl rfl (fun H locs hP hD hS => ?_)
  refine lv_lload_n hx hb dX9_servedBy_5 rfl (lv_at hl 2 rfl) ?_
  obtain ⟨y3, h4, hM⟩ := o_bd hM
  refine af_v (ws2 := (w_Mo_servedBy cI cJ cS q_t q_t_kindOf q_t_comes q_t_wants q_t_runs q_t_readKind q_t_readComes q_t_readWants q_t_queueNow q_t_servedAt q_t_comesWas q_t_readingOf q_t_readingAt q_t_sheetSize q_t_sheetLane q_t_sheet q_t_hands t_fault t_persons t_law t_bellSet t_readAt t_readLaw t_readMany y3.1 y3.2.1 y3.2.2.1 t_readings t_whichMany t_whichOne t_whichTwo t_traceNow t_kindOf t_comes t_wants t_runs y3.2.2.2.1 y3.2.2.2.2)) (va_runV (As := [.int y1, .long p_set]) (rest := []) ⟨hx, hb, hml, hown, hts⟩ (c_Mo_goDay l D cI cJ cS q_t q_t_kindOf q_t_comes q_t_wants q_t_runs q_t_readKind q_t_readComes q_t_readWants q_t_queueNow q_t_servedAt q_t_comesWas q_t_readingOf q_t_readingAt q_t_sheetSize q_t_sheetLane q_t_sheet q_t_hands t_fault t_persons t_law t_bellSet t_readAt t_readLaw t_readMany t_queueMany t_servedNow t_doneAt t_readings t_whichMany t_whichOne t_whichTwo t_traceNow t_kindOf t_comes t_wants t_runs t_queueNow t_servedAt y1 p_set y3 h4 _) (cwV 2 hts gX9_servedBy_X9_goDay rfl rfl rfl (by decide +kernel) ⟨(Nat.le_of_ble_eq_true rfl), (Nat.le_of_ble_eq_true rfl)⟩) (pre_V hK hP hD [0, 1, 2, 3, 4, 5, 6] rfl rfl rfl rfl) rfl rfl hl.1 rfl (lv_room (Nat.le_of_ble_eq_true rfl)) dX9_servedBy_6 ⟨Nat.zero_le _, Nat.zero_le _⟩) hP hD hS hA [0, 1, 2, 3, 4, 5, 6] [] [0, 1, 2, 3, 4, 5, 6] rfl rfl rfl (by decide) rfl rfl (fun H locs hP hD hS => ?_)
  refine lv_aload_n hx hb dX9_servedBy_9 rfl (lv_at hl 0 rfl) ?_
  refine va_get (ci := 8) (v := .ref q_t_servedAt) (C := RX9) (T := TX9) (N := 31) hx hb hts iX9 hown hK.1 hP 0 rfl rfl 18 (Nat.le_of_ble_eq_true rfl) k0 (fun _ h9 => h9) rfl dX9_servedBy_10 ?_
  refine lv_iload_n hx hb dX9_servedBy_13 rfl (lv_at hl 1 rfl) ?_
  obtain ⟨h5, hM⟩ := o_ck hM
  refine va_iald hx hb hK.1 hP 6 0 rfl rfl h5 dX9_servedBy_14 ?_
  have hM := (Option.some.inj hM)
  subst hM
  exact rt_i hx hb hr hlocks hP hD hS dX9_servedBy_15
/-! ===== TurnQueueModel.ringer ===== -/
abbrev w_Mo_ringer (cI cJ cS : ClassId) (q_t : Nat) (q_t_kindOf : Nat) (q_t_comes : Nat) (q_t_wants : Nat) (q_t_runs : Nat) (q_t_readKind : Nat) (q_t_readComes : Nat) (q_t_readWants : Nat) (q_t_queueNow : Nat) (q_t_servedAt : Nat) (q_t_comesWas : Nat) (q_t_readingOf : Nat) (q_t_readingAt : Nat) (q_t_sheetSize : Nat) (q_t_sheetLane : Nat) (q_t_sheet : Nat) (q_t_hands : Nat) (t_fault : Int32) (t_persons : Int32) (t_law : Int32) (t_bellSet : Int64) (t_readAt : Int32) (t_readLaw : Int32) (t_readMany : Int32) (t_queueMany : Int32) (t_servedNow : Int32) (t_doneAt : Int32) (t_readings : Int32) (t_whichMany : Int32) (t_whichOne : Int32) (t_whichTwo : Int32) (t_traceNow : Int32) (t_kindOf : Nat → Int32) (t_comes : Nat → Int32) (t_wants : Nat → Int32) (t_runs : Nat → Int32) (t_queueNow : Nat → Int32) (t_servedAt : Nat → Int32) : va_W := [(q_t, .inr (8, [.int t_fault, .int t_persons, .int t_law, .ref q_t_kindOf, .ref q_t_comes, .ref q_t_wants, .ref q_t_runs, .long t_bellSet, .int t_readAt, .int t_readLaw, .int t_readMany, .ref q_t_readKind, .ref q_t_readComes, .ref q_t_readWants, .ref q_t_queueNow, .int t_queueMany, .int t_servedNow, .int t_doneAt, .ref q_t_servedAt, .ref q_t_comesWas, .int t_readings, .ref q_t_readingOf, .ref q_t_readingAt, .int t_whichMany, .int t_whichOne, .int t_whichTwo, .ref q_t_sheetSize, .ref q_t_sheetLane, .ref q_t_sheet, .ref q_t_hands, .int t_traceNow])), (q_t_kindOf, ar cI 7 t_kindOf), (q_t_comes, ar cI 7 t_comes), (q_t_wants, ar cI 7 t_wants), (q_t_runs, ar cI 7 t_runs), (q_t_queueNow, ar cI 7 t_queueNow), (q_t_servedAt, ar cI 7 t_servedAt)]
abbrev rm_Mo_ringer : Room := { frames := 5, cells := 0, slots := 0, locals := 117 }
noncomputable def Mo_ringer_j151 (p_p : Int32) (p_what : Int32) (t_persons : Int32) (t_law : Int32) (t_bellSet : Int64) (t_kindOf : Nat → Int32) (t_comes : Nat → Int32) (t_wants : Nat → Int32) (t_runs : Nat → Int32) (x3 : Int32) (x4 : Int32) (t_queueMany : Int32) (t_servedNow : Int32) (t_doneAt : Int32) (t_queueNow : Nat → Int32) (t_servedAt : Nat → Int32) : Option (Int32 × Int32 × Int32 × Int32 × (Nat → Int32) × (Nat → Int32)) :=
  if p_what = 0 then
    some (x3, t_queueMany, t_servedNow, t_doneAt, t_queueNow, t_servedAt)
  else
    some (x4, t_queueMany, t_servedNow, t_doneAt, t_queueNow, t_servedAt)
noncomputable def Mo_ringer_b40 (p_p : Int32) (p_what : Int32) (t_persons : Int32) (t_law : Int32) (t_bellSet : Int64) (t_kindOf : Nat → Int32) (t_comes : Nat → Int32) (t_wants : Nat → Int32) (t_runs : Nat → Int32) (x3 : Int32) (x4 : Int32) (x5 : Int32) (t_queueMany : Int32) (t_servedNow : Int32) (t_doneAt : Int32) (t_queueNow : Nat → Int32) (t_servedAt : Nat → Int32) : Option ((Nat × Int32 × Int32 × Int32 × Int32 × Int32 × Int32 × Int32 × (Nat → Int32) × (Nat → Int32)) ⊕ (Int32 × Int32 × Int32 × Int32 × (Nat → Int32) × (Nat → Int32))) :=
  if 60 ≤ x5 then
    ex (Mo_ringer_j151 p_p p_what t_persons t_law t_bellSet t_kindOf t_comes t_wants t_runs x3 x4 t_queueMany t_servedNow t_doneAt t_queueNow t_servedAt)
  else
    lt (x5 - 3) fun y11 =>
    some (.inl (1, x3, x4, x5, y11, t_queueMany, t_servedNow, t_doneAt, t_queueNow, t_servedAt))
noncomputable def Mo_ringer_b53 (p_p : Int32) (p_what : Int32) (t_persons : Int32) (t_law : Int32) (t_bellSet : Int64) (t_kindOf : Nat → Int32) (t_comes : Nat → Int32) (t_wants : Nat → Int32) (t_runs : Nat → Int32) (x3 : Int32) (x4 : Int32) (x5 : Int32) (x6 : Int32) (t_queueMany : Int32) (t_servedNow : Int32) (t_doneAt : Int32) (t_queueNow : Nat → Int32) (t_servedAt : Nat → Int32) : Option ((Nat × Int32 × Int32 × Int32 × Int32 × Int32 × Int32 × Int32 × (Nat → Int32) × (Nat → Int32)) ⊕ (Int32 × Int32 × Int32 × Int32 × (Nat → Int32) × (Nat → Int32))) :=
  if (x5 + 3) < x6 then
    lt (x5 + 1) fun y13 =>
    some (.inl (0, x3, x4, y13, 0, t_queueMany, t_servedNow, t_doneAt, t_queueNow, t_servedAt))
  else
    (Mo_isBell t_bellSet x5).bind fun y14 =>
    if y14 = 0 then
      lt (x6 + 1) fun y17 =>
      some (.inl (1, x3, x4, x5, y17, t_queueMany, t_servedNow, t_doneAt, t_queueNow, t_servedAt))
    else
      (Mo_isMinute x6).bind fun y18 =>
      if y18 = 0 then
        lt (x6 + 1) fun y21 =>
        some (.inl (1, x3, x4, x5, y21, t_queueMany, t_servedNow, t_doneAt, t_queueNow, t_servedAt))
      else
        (Mo_isBell t_bellSet x6).bind fun y22 =>
        if y22 = 0 then
          (Mo_servedBy p_p ((t_bellSet &&& (((1 : Int64) <<< (x5.toInt64 &&& 63)) ^^^ (-1))) ||| ((1 : Int64) <<< (x6.toInt64 &&& 63))) t_persons t_law t_kindOf t_comes t_wants t_runs t_queueMany t_servedNow t_doneAt t_queueNow t_servedAt).bind fun y26 =>
          if x4 ≤ y26.1 then
            lt (x6 + 1) fun y29 =>
            some (.inl (1, x3, x4, x5, y29, y26.2.1, y26.2.2.1, y26.2.2.2.1, y26.2.2.2.2.1, y26.2.2.2.2.2))
          else
            lt ((100 * x5) + x6) fun y30 =>
            lt (x6 + 1) fun y31 =>
            some (.inl (1, y30, y26.1, x5, y31, y26.2.1, y26.2.2.1, y26.2.2.2.1, y26.2.2.2.2.1, y26.2.2.2.2.2))
        else
          lt (x6 + 1) fun y25 =>
          some (.inl (1, x3, x4, x5, y25, t_queueMany, t_servedNow, t_doneAt, t_queueNow, t_servedAt))
noncomputable def Mo_ringer_s40 (p_p : Int32) (p_what : Int32) (t_persons : Int32) (t_law : Int32) (t_bellSet : Int64) (t_kindOf : Nat → Int32) (t_comes : Nat → Int32) (t_wants : Nat → Int32) (t_runs : Nat → Int32) : (Nat × Int32 × Int32 × Int32 × Int32 × Int32 × Int32 × Int32 × (Nat → Int32) × (Nat → Int32)) → Option ((Nat × Int32 × Int32 × Int32 × Int32 × Int32 × Int32 × Int32 × (Nat → Int32) × (Nat → Int32)) ⊕ (Int32 × Int32 × Int32 × Int32 × (Nat → Int32) × (Nat → Int32))) := fun x => match x.1 with
  | 0 => Mo_ringer_b40 p_p p_what t_persons t_law t_bellSet t_kindOf t_comes t_wants t_runs x.2.1 x.2.2.1 x.2.2.2.1 x.2.2.2.2.2.1 x.2.2.2.2.2.2.1 x.2.2.2.2.2.2.2.1 x.2.2.2.2.2.2.2.2.1 x.2.2.2.2.2.2.2.2.2
  | 1 => Mo_ringer_b53 p_p p_what t_persons t_law t_bellSet t_kindOf t_comes t_wants t_runs x.2.1 x.2.2.1 x.2.2.2.1 x.2.2.2.2.1 x.2.2.2.2.2.1 x.2.2.2.2.2.2.1 x.2.2.2.2.2.2.2.1 x.2.2.2.2.2.2.2.2.1 x.2.2.2.2.2.2.2.2.2
  | _ => none
noncomputable def Mo_ringer_l40 (p_p : Int32) (p_what : Int32) (t_persons : Int32) (t_law : Int32) (t_bellSet : Int64) (t_kindOf : Nat → Int32) (t_comes : Nat → Int32) (t_wants : Nat → Int32) (t_runs : Nat → Int32) (x3 : Int32) (x4 : Int32) (x5 : Int32) (t_queueMany : Int32) (t_servedNow : Int32) (t_doneAt : Int32) (t_queueNow : Nat → Int32) (t_servedAt : Nat → Int32) : Option (Int32 × Int32 × Int32 × Int32 × (Nat → Int32) × (Nat → Int32)) := fin (Mo_ringer_s40 p_p p_what t_persons t_law t_bellSet t_kindOf t_comes t_wants t_runs) (0, x3, x4, x5, 0, t_queueMany, t_servedNow, t_doneAt, t_queueNow, t_servedAt)
noncomputable def Mo_ringer_l53 (p_p : Int32) (p_what : Int32) (t_persons : Int32) (t_law : Int32) (t_bellSet : Int64) (t_kindOf : Nat → Int32) (t_comes : Nat → Int32) (t_wants : Nat → Int32) (t_runs : Nat → Int32) (x3 : Int32) (x4 : Int32) (x5 : Int32) (x6 : Int32) (t_queueMany : Int32) (t_servedNow : Int32) (t_doneAt : Int32) (t_queueNow : Nat → Int32) (t_servedAt : Nat → Int32) : Option (Int32 × Int32 × Int32 × Int32 × (Nat → Int32) × (Nat → Int32)) := fin (Mo_ringer_s40 p_p p_what t_persons t_law t_bellSet t_kindOf t_comes t_wants t_runs) (1, x3, x4, x5, x6, t_queueMany, t_servedNow, t_doneAt, t_queueNow, t_servedAt)
noncomputable def Mo_ringer (p_p : Int32) (p_what : Int32) (t_persons : Int32) (t_law : Int32) (t_bellSet : Int64) (t_kindOf : Nat → Int32) (t_comes : Nat → Int32) (t_wants : Nat → Int32) (t_runs : Nat → Int32) (t_queueMany : Int32) (t_servedNow : Int32) (t_doneAt : Int32) (t_queueNow : Nat → Int32) (t_servedAt : Nat → Int32) : Option (Int32 × Int32 × Int32 × Int32 × (Nat → Int32) × (Nat → Int32)) :=
  (Mo_noPerson p_p t_persons).bind fun y1 =>
  if y1 = 0 then
    (Mo_in p_what.toInt64 0 1).bind fun y4 =>
    if y4 = 0 then
      some ((-2), t_queueMany, t_servedNow, t_doneAt, t_queueNow, t_servedAt)
    else
      (Mo_servedBy p_p t_bellSet t_persons t_law t_kindOf t_comes t_wants t_runs t_queueMany t_servedNow t_doneAt t_queueNow t_servedAt).bind fun y7 =>
      Mo_ringer_l40 p_p p_what t_persons t_law t_bellSet t_kindOf t_comes t_wants t_runs (-9) y7.1 0 y7.2.1 y7.2.2.1 y7.2.2.2.1 y7.2.2.2.2.1 y7.2.2.2.2.2
  else
    some ((-1), t_queueMany, t_servedNow, t_doneAt, t_queueNow, t_servedAt)
theorem Mo_ringer_l40_eq (p_p : Int32) (p_what : Int32) (t_persons : Int32) (t_law : Int32) (t_bellSet : Int64) (t_kindOf : Nat → Int32) (t_comes : Nat → Int32) (t_wants : Nat → Int32) (t_runs : Nat → Int32) (x3 : Int32) (x4 : Int32) (x5 : Int32) (t_queueMany : Int32) (t_servedNow : Int32) (t_doneAt : Int32) (t_queueNow : Nat → Int32) (t_servedAt : Nat → Int32) : Mo_ringer_l40 p_p p_what t_persons t_law t_bellSet t_kindOf t_comes t_wants t_runs x3 x4 x5 t_queueMany t_servedNow t_doneAt t_queueNow t_servedAt = (Mo_ringer_b40 p_p p_what t_persons t_law t_bellSet t_kindOf t_comes t_wants t_runs x3 x4 x5 t_queueMany t_servedNow t_doneAt t_queueNow t_servedAt).bind (sg (fin (Mo_ringer_s40 p_p p_what t_persons t_law t_bellSet t_kindOf t_comes t_wants t_runs))) := by
  unfold Mo_ringer_l40
  exact fin_eq _ _
theorem Mo_ringer_l40_fd (p_p : Int32) (p_what : Int32) (t_persons : Int32) (t_law : Int32) (t_bellSet : Int64) (t_kindOf : Nat → Int32) (t_comes : Nat → Int32) (t_wants : Nat → Int32) (t_runs : Nat → Int32) (x3 : Int32) (x4 : Int32) (x5 : Int32) (t_queueMany : Int32) (t_servedNow : Int32) (t_doneAt : Int32) (t_queueNow : Nat → Int32) (t_servedAt : Nat → Int32) : fin (Mo_ringer_s40 p_p p_what t_persons t_law t_bellSet t_kindOf t_comes t_wants t_runs) (0, x3, x4, x5, 0, t_queueMany, t_servedNow, t_doneAt, t_queueNow, t_servedAt) = Mo_ringer_l40 p_p p_what t_persons t_law t_bellSet t_kindOf t_comes t_wants t_runs x3 x4 x5 t_queueMany t_servedNow t_doneAt t_queueNow t_servedAt := rfl
theorem Mo_ringer_l53_eq (p_p : Int32) (p_what : Int32) (t_persons : Int32) (t_law : Int32) (t_bellSet : Int64) (t_kindOf : Nat → Int32) (t_comes : Nat → Int32) (t_wants : Nat → Int32) (t_runs : Nat → Int32) (x3 : Int32) (x4 : Int32) (x5 : Int32) (x6 : Int32) (t_queueMany : Int32) (t_servedNow : Int32) (t_doneAt : Int32) (t_queueNow : Nat → Int32) (t_servedAt : Nat → Int32) : Mo_ringer_l53 p_p p_what t_persons t_law t_bellSet t_kindOf t_comes t_wants t_runs x3 x4 x5 x6 t_queueMany t_servedNow t_doneAt t_queueNow t_servedAt = (Mo_ringer_b53 p_p p_what t_persons t_law t_bellSet t_kindOf t_comes t_wants t_runs x3 x4 x5 x6 t_queueMany t_servedNow t_doneAt t_queueNow t_servedAt).bind (sg (fin (Mo_ringer_s40 p_p p_what t_persons t_law t_bellSet t_kindOf t_comes t_wants t_runs))) := by
  unfold Mo_ringer_l53
  exact fin_eq _ _
theorem Mo_ringer_l53_fd (p_p : Int32) (p_what : Int32) (t_persons : Int32) (t_law : Int32) (t_bellSet : Int64) (t_kindOf : Nat → Int32) (t_comes : Nat → Int32) (t_wants : Nat → Int32) (t_runs : Nat → Int32) (x3 : Int32) (x4 : Int32) (x5 : Int32) (x6 : Int32) (t_queueMany : Int32) (t_servedNow : Int32) (t_doneAt : Int32) (t_queueNow : Nat → Int32) (t_servedAt : Nat → Int32) : fin (Mo_ringer_s40 p_p p_what t_persons t_law t_bellSet t_kindOf t_comes t_wants t_runs) (1, x3, x4, x5, x6, t_queueMany, t_servedNow, t_doneAt, t_queueNow, t_servedAt) = Mo_ringer_l53 p_p p_what t_persons t_law t_bellSet t_kindOf t_comes t_wants t_runs x3 x4 x5 x6 t_queueMany t_servedNow t_doneAt t_queueNow t_servedAt := rfl
set_option maxRecDepth 100000 in
set_option maxHeartbeats 4000000 in
theorem c_Mo_ringer (l : Launch) (D : va_G) (cI cJ cS : ClassId) (q_t q_t_kindOf q_t_comes q_t_wants q_t_runs q_t_readKind q_t_readComes q_t_readWants q_t_queueNow q_t_servedAt q_t_comesWas q_t_readingOf q_t_readingAt q_t_sheetSize q_t_sheetLane q_t_sheet q_t_hands : Nat) (t_fault : Int32) (t_persons : Int32) (t_law : Int32) (t_bellSet : Int64) (t_readAt : Int32) (t_readLaw : Int32) (t_readMany : Int32) (t_queueMany : Int32) (t_servedNow : Int32) (t_doneAt : Int32) (t_readings : Int32) (t_whichMany : Int32) (t_whichOne : Int32) (t_whichTwo : Int32) (t_traceNow : Int32) (t_kindOf : Nat → Int32) (t_comes : Nat → Int32) (t_wants : Nat → Int32) (t_runs : Nat → Int32) (t_queueNow : Nat → Int32) (t_servedAt : Nat → Int32) (p_p : Int32) (p_what : Int32) (o : Int32 × Int32 × Int32 × Int32 × (Nat → Int32) × (Nat → Int32)) (hM : Mo_ringer p_p p_what t_persons t_law t_bellSet t_kindOf t_comes t_wants t_runs t_queueMany t_servedNow t_doneAt t_queueNow t_servedAt = some o) : Ci l yX9_ringer wsX9_ringer rm_Mo_ringer D cI cJ cS [.ref q_t, .int p_p, .int p_what] (w_Mo_ringer cI cJ cS q_t q_t_kindOf q_t_comes q_t_wants q_t_runs q_t_readKind q_t_readComes q_t_readWants q_t_queueNow q_t_servedAt q_t_comesWas q_t_readingOf q_t_readingAt q_t_sheetSize q_t_sheetLane q_t_sheet q_t_hands t_fault t_persons t_law t_bellSet t_readAt t_readLaw t_readMany t_queueMany t_servedNow t_doneAt t_readings t_whichMany t_whichOne t_whichTwo t_traceNow t_kindOf t_comes t_wants t_runs t_queueNow t_servedAt) (w_Mo_ringer cI cJ cS q_t q_t_kindOf q_t_comes q_t_wants q_t_runs q_t_readKind q_t_readComes q_t_readWants q_t_queueNow q_t_servedAt q_t_comesWas q_t_readingOf q_t_readingAt q_t_sheetSize q_t_sheetLane q_t_sheet q_t_hands t_fault t_persons t_law t_bellSet t_readAt t_readLaw t_readMany o.2.1 o.2.2.1 o.2.2.2.1 t_readings t_whichMany t_whichOne t_whichTwo t_traceNow t_kindOf t_comes t_wants t_runs o.2.2.2.2.1 o.2.2.2.2.2) o.1 := by
  refine Ci.of (cc := cX9_ringer) (maxL := 8) (ret := (some .int)) (by decide) rfl (Nat.le_of_ble_eq_true rfl) ?_
  intro p e s m args below meth c A ls hE
  obtain ⟨hx, hb, hr, hml, hown, hts, hlocks, hK, hA, hP, hD, hS, hl⟩ := hE
  have hown : s.vm.findClass RX9 = some m.cls := hown
  have hl : lv_has ls 8 [(0, .ref q_t), (1, .int p_p), (2, .int p_what)] := hl
  have iX9 : ∀ w ∈ u_ws RX9 TX9 31, w ∈ wsX9_ringer := by decide +kernel
  have k0 := hts (.fieldLink RX9 121 "TurnQueueModel" "bellSet" "J") (by decide +kernel)
  have k1 := hts (.constantLong RX9 138 (-1)) (by decide +kernel)
  have J151 : ∀ (x3 : Int32) (x4 : Int32) (t_queueMany : Int32) (t_servedNow : Int32) (t_doneAt : Int32) (t_queueNow : Nat → Int32) (t_servedAt : Nat → Int32), Mo_ringer_j151 p_p p_what t_persons t_law t_bellSet t_kindOf t_comes t_wants t_runs x3 x4 t_queueMany t_servedNow t_doneAt t_queueNow t_servedAt = some o → ∀ (H : Heap) (locs : List Loc), va_P D vwCl (w_Mo_ringer cI cJ cS q_t q_t_kindOf q_t_comes q_t_wants q_t_runs q_t_readKind q_t_readComes q_t_readWants q_t_queueNow q_t_servedAt q_t_comesWas q_t_readingOf q_t_readingAt q_t_sheetSize q_t_sheetLane q_t_sheet q_t_hands t_fault t_persons t_law t_bellSet t_readAt t_readLaw t_readMany t_queueMany t_servedNow t_doneAt t_readings t_whichMany t_whichOne t_whichTwo t_traceNow t_kindOf t_comes t_wants t_runs t_queueNow t_servedAt) H → va_D A (w_Mo_ringer cI cJ cS q_t q_t_kindOf q_t_comes q_t_wants q_t_runs q_t_readKind q_t_readComes q_t_readWants q_t_queueNow q_t_servedAt q_t_comesWas q_t_readingOf q_t_readingAt q_t_sheetSize q_t_sheetLane q_t_sheet q_t_hands t_fault t_persons t_law t_bellSet t_readAt t_readLaw t_readMany t_queueMany t_servedNow t_doneAt t_readings t_whichMany t_whichOne t_whichTwo t_traceNow t_kindOf t_comes t_wants t_runs t_queueNow t_servedAt) → va_S A s.heap H locs → ∀ ls : Array Slot, lv_has ls 8 [(2, .int p_what), (3, .int x3), (4, .int x4)] → W p l e (headSpec wsX9_ringer rm_Mo_ringer).room s m args below meth c H locs 0 0 (MQ below (CQi D (w_Mo_ringer cI cJ cS q_t q_t_kindOf q_t_comes q_t_wants q_t_runs q_t_readKind q_t_readComes q_t_readWants q_t_queueNow q_t_servedAt q_t_comesWas q_t_readingOf q_t_readingAt q_t_sheetSize q_t_sheetLane q_t_sheet q_t_hands t_fault t_persons t_law t_bellSet t_readAt t_readLaw t_readMany o.2.1 o.2.2.1 o.2.2.2.1 t_readings t_whichMany t_whichOne t_whichTwo t_traceNow t_kindOf t_comes t_wants t_runs o.2.2.2.2.1 o.2.2.2.2.2) A o.1) args s 0 0 A) (F0 m 151 ls []) := by
    intro x3 x4 t_queueMany t_servedNow t_doneAt t_queueNow t_servedAt hM H locs hP hD hS ls hl
    unfold Mo_ringer_j151 at hM
    refine lv_iload_n hx hb dX9_ringer_151 rfl (lv_at hl 0 rfl) ?_
    refine lv_if_ne (tgt := 159) hx hb dX9_ringer_152 (by decide) (fun c10 => ?_) (fun c10 => ?_)
    · have hM := (o_if hM).2 c10
      refine lv_iload hx hb dX9_ringer_159 (lv_at hl 2 rfl) ?_
      have hM := (Option.some.inj hM)
      subst hM
      exact rt_i hx hb hr hlocks hP hD hS dX9_ringer_161
    · have hM := (o_if hM).1 c10
      refine lv_iload_n hx hb dX9_ringer_155 rfl (lv_at hl 1 rfl) ?_
      refine lv_goto (tgt := 161) hx hb dX9_ringer_156 (by decide) ?_
      have hM := (Option.some.inj hM)
      subst hM
      exact rt_i hx hb hr hlocks hP hD hS dX9_ringer_161
  have L40 : ∀ n : Nat, (∀ (x3 : Int32) (x4 : Int32) (x5 : Int32) (t_queueMany : Int32) (t_servedNow : Int32) (t_doneAt : Int32) (t_queueNow : Nat → Int32) (t_servedAt : Nat → Int32), itr (Mo_ringer_s40 p_p p_what t_persons t_law t_bellSet t_kindOf t_comes t_wants t_runs) n (0, x3, x4, x5, 0, t_queueMany, t_servedNow, t_doneAt, t_queueNow, t_servedAt) = some o → ∀ (H : Heap) (locs : List Loc), va_P D vwCl (w_Mo_ringer cI cJ cS q_t q_t_kindOf q_t_comes q_t_wants q_t_runs q_t_readKind q_t_readComes q_t_readWants q_t_queueNow q_t_servedAt q_t_comesWas q_t_readingOf q_t_readingAt q_t_sheetSize q_t_sheetLane q_t_sheet q_t_hands t_fault t_persons t_law t_bellSet t_readAt t_readLaw t_readMany t_queueMany t_servedNow t_doneAt t_readings t_whichMany t_whichOne t_whichTwo t_traceNow t_kindOf t_comes t_wants t_runs t_queueNow t_servedAt) H → va_D A (w_Mo_ringer cI cJ cS q_t q_t_kindOf q_t_comes q_t_wants q_t_runs q_t_readKind q_t_readComes q_t_readWants q_t_queueNow q_t_servedAt q_t_comesWas q_t_readingOf q_t_readingAt q_t_sheetSize q_t_sheetLane q_t_sheet q_t_hands t_fault t_persons t_law t_bellSet t_readAt t_readLaw t_readMany t_queueMany t_servedNow t_doneAt t_readings t_whichMany t_whichOne t_whichTwo t_traceNow t_kindOf t_comes t_wants t_runs t_queueNow t_servedAt) → va_S A s.heap H locs → ∀ ls : Array Slot, lv_has ls 8 [(0, .ref q_t), (1, .int p_p), (2, .int p_what), (3, .int x3), (4, .int x4), (5, .int x5)] → W p l e (headSpec wsX9_ringer rm_Mo_ringer).room s m args below meth c H locs 0 0 (MQ below (CQi D (w_Mo_ringer cI cJ cS q_t q_t_kindOf q_t_comes q_t_wants q_t_runs q_t_readKind q_t_readComes q_t_readWants q_t_queueNow q_t_servedAt q_t_comesWas q_t_readingOf q_t_readingAt q_t_sheetSize q_t_sheetLane q_t_sheet q_t_hands t_fault t_persons t_law t_bellSet t_readAt t_readLaw t_readMany o.2.1 o.2.2.1 o.2.2.2.1 t_readings t_whichMany t_whichOne t_whichTwo t_traceNow t_kindOf t_comes t_wants t_runs o.2.2.2.2.1 o.2.2.2.2.2) A o.1) args s 0 0 A) (F0 m 40 ls [])) ∧ (∀ (x3 : Int32) (x4 : Int32) (x5 : Int32) (x6 : Int32) (t_queueMany : Int32) (t_servedNow : Int32) (t_doneAt : Int32) (t_queueNow : Nat → Int32) (t_servedAt : Nat → Int32), itr (Mo_ringer_s40 p_p p_what t_persons t_law t_bellSet t_kindOf t_comes t_wants t_runs) n (1, x3, x4, x5, x6, t_queueMany, t_servedNow, t_doneAt, t_queueNow, t_servedAt) = some o → ∀ (H : Heap) (locs : List Loc), va_P D vwCl (w_Mo_ringer cI cJ cS q_t q_t_kindOf q_t_comes q_t_wants q_t_runs q_t_readKind q_t_readComes q_t_readWants q_t_queueNow q_t_servedAt q_t_comesWas q_t_readingOf q_t_readingAt q_t_sheetSize q_t_sheetLane q_t_sheet q_t_hands t_fault t_persons t_law t_bellSet t_readAt t_readLaw t_readMany t_queueMany t_servedNow t_doneAt t_readings t_whichMany t_whichOne t_whichTwo t_traceNow t_kindOf t_comes t_wants t_runs t_queueNow t_servedAt) H → va_D A (w_Mo_ringer cI cJ cS q_t q_t_kindOf q_t_comes q_t_wants q_t_runs q_t_readKind q_t_readComes q_t_readWants q_t_queueNow q_t_servedAt q_t_comesWas q_t_readingOf q_t_readingAt q_t_sheetSize q_t_sheetLane q_t_sheet q_t_hands t_fault t_persons t_law t_bellSet t_readAt t_readLaw t_readMany t_queueMany t_servedNow t_doneAt t_readings t_whichMany t_whichOne t_whichTwo t_traceNow t_kindOf t_comes t_wants t_runs t_queueNow t_servedAt) → va_S A s.heap H locs → ∀ ls : Array Slot, lv_has ls 8 [(0, .ref q_t), (1, .int p_p), (2, .int p_what), (3, .int x3), (4, .int x4), (5, .int x5), (6, .int x6)] → W p l e (headSpec wsX9_ringer rm_Mo_ringer).room s m args below meth c H locs 0 0 (MQ below (CQi D (w_Mo_ringer cI cJ cS q_t q_t_kindOf q_t_comes q_t_wants q_t_runs q_t_readKind q_t_readComes q_t_readWants q_t_queueNow q_t_servedAt q_t_comesWas q_t_readingOf q_t_readingAt q_t_sheetSize q_t_sheetLane q_t_sheet q_t_hands t_fault t_persons t_law t_bellSet t_readAt t_readLaw t_readMany o.2.1 o.2.2.1 o.2.2.2.1 t_readings t_whichMany t_whichOne t_whichTwo t_traceNow t_kindOf t_comes t_wants t_runs o.2.2.2.2.1 o.2.2.2.2.2) A o.1) args s 0 0 A) (F0 m 53 ls [])) := by
    intro n
    induction n with
    | zero => exact ⟨fun _ _ _ _ _ _ _ _ hM => (itr_0 hM).elim, fun _ _ _ _ _ _ _ _ _ hM => (itr_0 hM).elim⟩
    | succ n ih =>
      refine ⟨?_, ?_⟩
      · intro x3 x4 x5 t_queueMany t_servedNow t_doneAt t_queueNow t_servedAt hM H locs hP hD hS ls hl
        have hM : (Mo_ringer_b40 p_p p_what t_persons t_law t_bellSet t_kindOf t_comes t_wants t_runs x3 x4 x5 t_queueMany t_servedNow t_doneAt t_queueNow t_servedAt).bind (sg (itr (Mo_ringer_s40 p_p p_what t_persons t_law t_bellSet t_kindOf t_comes t_wants t_runs) n)) = some o := hM
        unfold Mo_ringer_b40 at hM
        refine lv_iload hx hb dX9_ringer_40 (lv_at hl 5 rfl) ?_
        refine lv_bipush (v := 60) hx hb dX9_ringer_42 (by decide) ?_
        refine lv_icmp_ge (tgt := 151) hx hb dX9_ringer_44 (by decide) (fun c9 => ?_) (fun c9 => ?_)
        · have hM := (s_if hM).1 c9
          exact J151 x3 x4 t_queueMany t_servedNow t_doneAt t_queueNow t_servedAt (s_ex hM) _ _ hP hD hS _ (lv_sub hl [2, 3, 4] rfl)
        · have hM := (s_if hM).2 c9
          refine lv_iload hx hb dX9_ringer_47 (lv_at hl 5 rfl) ?_
          refine lv_iconst (v := 3) hx hb dX9_ringer_49 (by decide) ?_
          refine lv_isub hx hb dX9_ringer_50 ?_
          refine lv_topi (fun y11 ey11 => ?_)
          have hM := s_lt hM y11 ey11
          refine lv_istore (lv' := [(6, .int y11), (0, .ref q_t), (1, .int p_p), (2, .int p_what), (3, .int x3), (4, .int x4), (5, .int x5)]) hx hb dX9_ringer_51 hl (Nat.le_of_ble_eq_true rfl) rfl (fun ls hl => ?_)
          exact ih.2 x3 x4 x5 y11 t_queueMany t_servedNow t_doneAt t_queueNow t_servedAt (s_jp hM) _ _ hP hD hS _ (lv_sub hl [1, 2, 3, 4, 5, 6, 0] rfl)
      · intro x3 x4 x5 x6 t_queueMany t_servedNow t_doneAt t_queueNow t_servedAt hM H locs hP hD hS ls hl
        have hM : (Mo_ringer_b53 p_p p_what t_persons t_law t_bellSet t_kindOf t_comes t_wants t_runs x3 x4 x5 x6 t_queueMany t_servedNow t_doneAt t_queueNow t_servedAt).bind (sg (itr (Mo_ringer_s40 p_p p_what t_persons t_law t_bellSet t_kindOf t_comes t_wants t_runs) n)) = some o := hM
        unfold Mo_ringer_b53 at hM
        refine lv_iload hx hb dX9_ringer_53 (lv_at hl 6 rfl) ?_
        refine lv_iload hx hb dX9_ringer_55 (lv_at hl 5 rfl) ?_
        refine lv_iconst (v := 3) hx hb dX9_ringer_57 (by decide) ?_
        refine lv_iadd hx hb dX9_ringer_58 ?_
        refine lv_icmp_gt (tgt := 145) hx hb dX9_ringer_59 (by decide) (fun c12 => ?_) (fun c12 => ?_)
        · have hM := (s_if hM).1 c12
          obtain ⟨y13, ey13⟩ : ∃ y : Int32, y = x5 + 1 := ⟨_, rfl⟩
          have hM := s_lt hM y13 ey13
          refine lv_iinc (v := y13) (lv' := [(5, .int y13), (0, .ref q_t), (1, .int p_p), (2, .int p_what), (3, .int x3), (4, .int x4), (6, .int x6)]) hx hb dX9_ringer_145 hl (k := 5) rfl (by rw [ey13]; rfl) (Nat.le_of_ble_eq_true rfl) rfl (fun ls hl => ?_)
          refine lv_goto (tgt := 40) hx hb dX9_ringer_148 (by decide) ?_
          exact ih.1 x3 x4 y13 t_queueMany t_servedNow t_doneAt t_queueNow t_servedAt (s_jp hM) _ _ hP hD hS _ (lv_sub hl [1, 2, 3, 4, 5, 0] rfl)
        · have hM := (s_if hM).2 c12
          refine lv_aload_n hx hb dX9_ringer_62 rfl (lv_at hl 0 rfl) ?_
          refine va_get (ci := 8) (v := .long t_bellSet) (C := RX9) (T := TX9) (N := 31) hx hb hts iX9 hown hK.1 hP 0 rfl rfl 7 (Nat.le_of_ble_eq_true rfl) k0 (fun _ h9 => h9) rfl dX9_ringer_63 ?_
          refine lv_iload hx hb dX9_ringer_66 (lv_at hl 5 rfl) ?_
          obtain ⟨y14, h15, hM⟩ := s_bd hM
          refine af_i (ws2 := (w_Mo_ringer cI cJ cS q_t q_t_kindOf q_t_comes q_t_wants q_t_runs q_t_readKind q_t_readComes q_t_readWants q_t_queueNow q_t_servedAt q_t_comesWas q_t_readingOf q_t_readingAt q_t_sheetSize q_t_sheetLane q_t_sheet q_t_hands t_fault t_persons t_law t_bellSet t_readAt t_readLaw t_readMany t_queueMany t_servedNow t_doneAt t_readings t_whichMany t_whichOne t_whichTwo t_traceNow t_kindOf t_comes t_wants t_runs t_queueNow t_servedAt)) (va_runS (As := [.long t_bellSet, .int x5]) (rest := []) ⟨hx, hb, hml, hown, hts⟩ (c_Mo_isBell l D cI cJ cS t_bellSet x5 y14 h15 _) (va_cwS 2 hts gX9_ringer_X9_isBell rfl rfl rfl (by decide +kernel) ⟨(Nat.le_of_ble_eq_true rfl), (Nat.le_of_ble_eq_true rfl)⟩) (pre_S hK hP hD [] rfl rfl) rfl rfl hl.1 rfl (lv_room (Nat.le_of_ble_eq_true rfl)) dX9_ringer_68 ⟨Nat.zero_le _, Nat.zero_le _⟩) hP hD hS hA [] [0, 1, 2, 3, 4, 5, 6] [0, 1, 2, 3, 4, 5, 6] rfl rfl rfl (by decide) rfl rfl (fun H locs hP hD hS => ?_)
          refine lv_if_eq (tgt := 139) hx hb dX9_ringer_71 (by decide) (fun c16 => ?_) (fun c16 => ?_)
          · have hM := (s_if hM).1 c16
            obtain ⟨y17, ey17⟩ : ∃ y : Int32, y = x6 + 1 := ⟨_, rfl⟩
            have hM := s_lt hM y17 ey17
            refine lv_iinc (v := y17) (lv' := [(6, .int y17), (0, .ref q_t), (1, .int p_p), (2, .int p_what), (3, .int x3), (4, .int x4), (5, .int x5)]) hx hb dX9_ringer_139 hl (k := 6) rfl (by rw [ey17]; rfl) (Nat.le_of_ble_eq_true rfl) rfl (fun ls hl => ?_)
            refine lv_goto (tgt := 53) hx hb dX9_ringer_142 (by decide) ?_
            exact ih.2 x3 x4 x5 y17 t_queueMany t_servedNow t_doneAt t_queueNow t_servedAt (s_jp hM) _ _ hP hD hS _ (lv_sub hl [1, 2, 3, 4, 5, 6, 0] rfl)
          · have hM := (s_if hM).2 c16
            refine lv_iload hx hb dX9_ringer_74 (lv_at hl 6 rfl) ?_
            obtain ⟨y18, h19, hM⟩ := s_bd hM
            refine af_i (ws2 := (w_Mo_ringer cI cJ cS q_t q_t_kindOf q_t_comes q_t_wants q_t_runs q_t_readKind q_t_readComes q_t_readWants q_t_queueNow q_t_servedAt q_t_comesWas q_t_readingOf q_t_readingAt q_t_sheetSize q_t_sheetLane q_t_sheet q_t_hands t_fault t_persons t_law t_bellSet t_readAt t_readLaw t_readMany t_queueMany t_servedNow t_doneAt t_readings t_whichMany t_whichOne t_whichTwo t_traceNow t_kindOf t_comes t_wants t_runs t_queueNow t_servedAt)) (va_runS (As := [.int x6]) (rest := []) ⟨hx, hb, hml, hown, hts⟩ (c_Mo_isMinute l D cI cJ cS x6 y18 h19 _) (va_cwS 1 hts gX9_ringer_X9_isMinute rfl rfl rfl (by decide +kernel) ⟨(Nat.le_of_ble_eq_true rfl), (Nat.le_of_ble_eq_true rfl)⟩) (pre_S hK hP hD [] rfl rfl) rfl rfl hl.1 rfl (lv_room (Nat.le_of_ble_eq_true rfl)) dX9_ringer_76 ⟨Nat.zero_le _, Nat.zero_le _⟩) hP hD hS hA [] [0, 1, 2, 3, 4, 5, 6] [0, 1, 2, 3, 4, 5, 6] rfl rfl rfl (by decide) rfl rfl (fun H locs hP hD hS => ?_)
            refine lv_if_eq (tgt := 139) hx hb dX9_ringer_79 (by decide) (fun c20 => ?_) (fun c20 => ?_)
            · have hM := (s_if hM).1 c20
              obtain ⟨y21, ey21⟩ : ∃ y : Int32, y = x6 + 1 := ⟨_, rfl⟩
              have hM := s_lt hM y21 ey21
              refine lv_iinc (v := y21) (lv' := [(6, .int y21), (0, .ref q_t), (1, .int p_p), (2, .int p_what), (3, .int x3), (4, .int x4), (5, .int x5)]) hx hb dX9_ringer_139 hl (k := 6) rfl (by rw [ey21]; rfl) (Nat.le_of_ble_eq_true rfl) rfl (fun ls hl => ?_)
              refine lv_goto (tgt := 53) hx hb dX9_ringer_142 (by decide) ?_
              exact ih.2 x3 x4 x5 y21 t_queueMany t_servedNow t_doneAt t_queueNow t_servedAt (s_jp hM) _ _ hP hD hS _ (lv_sub hl [1, 2, 3, 4, 5, 6, 0] rfl)
            · have hM := (s_if hM).2 c20
              refine lv_aload_n hx hb dX9_ringer_82 rfl (lv_at hl 0 rfl) ?_
              refine va_get (ci := 8) (v := .long t_bellSet) (C := RX9) (T := TX9) (N := 31) hx hb hts iX9 hown hK.1 hP 0 rfl rfl 7 (Nat.le_of_ble_eq_true rfl) k0 (fun _ h9 => h9) rfl dX9_ringer_83 ?_
              refine lv_iload hx hb dX9_ringer_86 (lv_at hl 6 rfl) ?_
              obtain ⟨y22, h23, hM⟩ := s_bd hM
              refine af_i (ws2 := (w_Mo_ringer cI cJ cS q_t q_t_kindOf q_t_comes q_t_wants q_t_runs q_t_readKind q_t_readComes q_t_readWants q_t_queueNow q_t_servedAt q_t_comesWas q_t_readingOf q_t_readingAt q_t_sheetSize q_t_sheetLane q_t_sheet q_t_hands t_fault t_persons t_law t_bellSet t_readAt t_readLaw t_readMany t_queueMany t_servedNow t_doneAt t_readings t_whichMany t_whichOne t_whichTwo t_traceNow t_kindOf t_comes t_wants t_runs t_queueNow t_servedAt)) (va_runS (As := [.long t_bellSet, .int x6]) (rest := []) ⟨hx, hb, hml, hown, hts⟩ (c_Mo_isBell l D cI cJ cS t_bellSet x6 y22 h23 _) (va_cwS 2 hts gX9_ringer_X9_isBell rfl rfl rfl (by decide +kernel) ⟨(Nat.le_of_ble_eq_true rfl), (Nat.le_of_ble_eq_true rfl)⟩) (pre_S hK hP hD [] rfl rfl) rfl rfl hl.1 rfl (lv_room (Nat.le_of_ble_eq_true rfl)) dX9_ringer_88 ⟨Nat.zero_le _, Nat.zero_le _⟩) hP hD hS hA [] [0, 1, 2, 3, 4, 5, 6] [0, 1, 2, 3, 4, 5, 6] rfl rfl rfl (by decide) rfl rfl (fun H locs hP hD hS => ?_)
              refine lv_if_ne (tgt := 139) hx hb dX9_ringer_91 (by decide) (fun c24 => ?_) (fun c24 => ?_)
              · have hM := (s_if hM).2 c24
                obtain ⟨y25, ey25⟩ : ∃ y : Int32, y = x6 + 1 := ⟨_, rfl⟩
                have hM := s_lt hM y25 ey25
                refine lv_iinc (v := y25) (lv' := [(6, .int y25), (0, .ref q_t), (1, .int p_p), (2, .int p_what), (3, .int x3), (4, .int x4), (5, .int x5)]) hx hb dX9_ringer_139 hl (k := 6) rfl (by rw [ey25]; rfl) (Nat.le_of_ble_eq_true rfl) rfl (fun ls hl => ?_)
                refine lv_goto (tgt := 53) hx hb dX9_ringer_142 (by decide) ?_
                exact ih.2 x3 x4 x5 y25 t_queueMany t_servedNow t_doneAt t_queueNow t_servedAt (s_jp hM) _ _ hP hD hS _ (lv_sub hl [1, 2, 3, 4, 5, 6, 0] rfl)
              · have hM := (s_if hM).1 c24
                refine lv_aload_n hx hb dX9_ringer_94 rfl (lv_at hl 0 rfl) ?_
                refine lv_iload_n hx hb dX9_ringer_95 rfl (lv_at hl 1 rfl) ?_
                refine lv_aload_n hx hb dX9_ringer_96 rfl (lv_at hl 0 rfl) ?_
                refine va_get (ci := 8) (v := .long t_bellSet) (C := RX9) (T := TX9) (N := 31) hx hb hts iX9 hown hK.1 hP 0 rfl rfl 7 (Nat.le_of_ble_eq_true rfl) k0 (fun _ h9 => h9) rfl dX9_ringer_97 ?_
                refine lv_lconst (v := 1) hx hb dX9_ringer_100 (by decide) ?_
                refine lv_iload hx hb dX9_ringer_101 (lv_at hl 5 rfl) ?_
                refine lv_lshl (v := (1 : Int64) <<< (x5.toInt64 &&& 63)) hx hb dX9_ringer_103 rfl ?_
                refine lv_ldc2 (v := (-1)) hx hb hown k1 dX9_ringer_104 ?_
                refine lv_lxor hx hb dX9_ringer_107 ?_
                refine lv_land hx hb dX9_ringer_108 ?_
                refine lv_lconst (v := 1) hx hb dX9_ringer_109 (by decide) ?_
                refine lv_iload hx hb dX9_ringer_110 (lv_at hl 6 rfl) ?_
                refine lv_lshl (v := (1 : Int64) <<< (x6.toInt64 &&& 63)) hx hb dX9_ringer_112 rfl ?_
                refine lv_lor hx hb dX9_ringer_113 ?_
                obtain ⟨y26, h27, hM⟩ := s_bd hM
                refine af_i (ws2 := (w_Mo_ringer cI cJ cS q_t q_t_kindOf q_t_comes q_t_wants q_t_runs q_t_readKind q_t_readComes q_t_readWants q_t_queueNow q_t_servedAt q_t_comesWas q_t_readingOf q_t_readingAt q_t_sheetSize q_t_sheetLane q_t_sheet q_t_hands t_fault t_persons t_law t_bellSet t_readAt t_readLaw t_readMany y26.2.1 y26.2.2.1 y26.2.2.2.1 t_readings t_whichMany t_whichOne t_whichTwo t_traceNow t_kindOf t_comes t_wants t_runs y26.2.2.2.2.1 y26.2.2.2.2.2)) (va_runV (As := [.int p_p, .long ((t_bellSet &&& (((1 : Int64) <<< (x5.toInt64 &&& 63)) ^^^ (-1))) ||| ((1 : Int64) <<< (x6.toInt64 &&& 63)))]) (rest := []) ⟨hx, hb, hml, hown, hts⟩ (c_Mo_servedBy l D cI cJ cS q_t q_t_kindOf q_t_comes q_t_wants q_t_runs q_t_readKind q_t_readComes q_t_readWants q_t_queueNow q_t_servedAt q_t_comesWas q_t_readingOf q_t_readingAt q_t_sheetSize q_t_sheetLane q_t_sheet q_t_hands t_fault t_persons t_law t_bellSet t_readAt t_readLaw t_readMany t_queueMany t_servedNow t_doneAt t_readings t_whichMany t_whichOne t_whichTwo t_traceNow t_kindOf t_comes t_wants t_runs t_queueNow t_servedAt p_p ((t_bellSet &&& (((1 : Int64) <<< (x5.toInt64 &&& 63)) ^^^ (-1))) ||| ((1 : Int64) <<< (x6.toInt64 &&& 63))) y26 h27 _) (cwV 2 hts gX9_ringer_X9_servedBy rfl rfl rfl (by decide +kernel) ⟨(Nat.le_of_ble_eq_true rfl), (Nat.le_of_ble_eq_true rfl)⟩) (pre_V hK hP hD [0, 1, 2, 3, 4, 5, 6] rfl rfl rfl rfl) rfl rfl hl.1 rfl (lv_room (Nat.le_of_ble_eq_true rfl)) dX9_ringer_114 ⟨Nat.zero_le _, Nat.zero_le _⟩) hP hD hS hA [0, 1, 2, 3, 4, 5, 6] [] [0, 1, 2, 3, 4, 5, 6] rfl rfl rfl (by decide) rfl rfl (fun H locs hP hD hS => ?_)
                refine lv_istore (lv' := [(7, .int y26.1), (0, .ref q_t), (1, .int p_p), (2, .int p_what), (3, .int x3), (4, .int x4), (5, .int x5), (6, .int x6)]) hx hb dX9_ringer_117 hl (Nat.le_of_ble_eq_true rfl) rfl (fun ls hl => ?_)
                refine lv_iload hx hb dX9_ringer_119 (lv_at hl 0 rfl) ?_
                refine lv_iload hx hb dX9_ringer_121 (lv_at hl 5 rfl) ?_
                refine lv_icmp_ge (tgt := 139) hx hb dX9_ringer_123 (by decide) (fun c28 => ?_) (fun c28 => ?_)
                · have hM := (s_if hM).1 c28
                  obtain ⟨y29, ey29⟩ : ∃ y : Int32, y = x6 + 1 := ⟨_, rfl⟩
                  have hM := s_lt hM y29 ey29
                  refine lv_iinc (v := y29) (lv' := [(6, .int y29), (7, .int y26.1), (0, .ref q_t), (1, .int p_p), (2, .int p_what), (3, .int x3), (4, .int x4), (5, .int x5)]) hx hb dX9_ringer_139 hl (k := 7) rfl (by rw [ey29]; rfl) (Nat.le_of_ble_eq_true rfl) rfl (fun ls hl => ?_)
                  refine lv_goto (tgt := 53) hx hb dX9_ringer_142 (by decide) ?_
                  exact ih.2 x3 x4 x5 y29 y26.2.1 y26.2.2.1 y26.2.2.2.1 y26.2.2.2.2.1 y26.2.2.2.2.2 (s_jp hM) _ _ hP hD hS _ (lv_sub hl [2, 3, 4, 5, 6, 7, 0] rfl)
                · have hM := (s_if hM).2 c28
                  refine lv_bipush (v := 100) hx hb dX9_ringer_126 (by decide) ?_
                  refine lv_iload hx hb dX9_ringer_128 (lv_at hl 6 rfl) ?_
                  refine lv_imul hx hb dX9_ringer_130 ?_
                  refine lv_iload hx hb dX9_ringer_131 (lv_at hl 7 rfl) ?_
                  refine lv_iadd hx hb dX9_ringer_133 ?_
                  refine lv_topi (fun y30 ey30 => ?_)
                  have hM := s_lt hM y30 ey30
                  refine lv_istore_n (lv' := [(3, .int y30), (7, .int y26.1), (0, .ref q_t), (1, .int p_p), (2, .int p_what), (4, .int x4), (5, .int x5), (6, .int x6)]) hx hb dX9_ringer_134 rfl hl (Nat.le_of_ble_eq_true rfl) rfl (fun ls hl => ?_)
                  refine lv_iload hx hb dX9_ringer_135 (lv_at hl 1 rfl) ?_
                  refine lv_istore (lv' := [(4, .int y26.1), (3, .int y30), (7, .int y26.1), (0, .ref q_t), (1, .int p_p), (2, .int p_what), (5, .int x5), (6, .int x6)]) hx hb dX9_ringer_137 hl (Nat.le_of_ble_eq_true rfl) rfl (fun ls hl => ?_)
                  obtain ⟨y31, ey31⟩ : ∃ y : Int32, y = x6 + 1 := ⟨_, rfl⟩
                  have hM := s_lt hM y31 ey31
                  refine lv_iinc (v := y31) (lv' := [(6, .int y31), (4, .int y26.1), (3, .int y30), (7, .int y26.1), (0, .ref q_t), (1, .int p_p), (2, .int p_what), (5, .int x5)]) hx hb dX9_ringer_139 hl (k := 7) rfl (by rw [ey31]; rfl) (Nat.le_of_ble_eq_true rfl) rfl (fun ls hl => ?_)
                  refine lv_goto (tgt := 53) hx hb dX9_ringer_142 (by decide) ?_
                  exact ih.2 y30 y26.1 x5 y31 y26.2.1 y26.2.2.1 y26.2.2.2.1 y26.2.2.2.2.1 y26.2.2.2.2.2 (s_jp hM) _ _ hP hD hS _ (lv_sub hl [4, 5, 6, 2, 1, 7, 0] rfl)
  have J40 : ∀ (x3 : Int32) (x4 : Int32) (x5 : Int32) (t_queueMany : Int32) (t_servedNow : Int32) (t_doneAt : Int32) (t_queueNow : Nat → Int32) (t_servedAt : Nat → Int32), Mo_ringer_l40 p_p p_what t_persons t_law t_bellSet t_kindOf t_comes t_wants t_runs x3 x4 x5 t_queueMany t_servedNow t_doneAt t_queueNow t_servedAt = some o → ∀ (H : Heap) (locs : List Loc), va_P D vwCl (w_Mo_ringer cI cJ cS q_t q_t_kindOf q_t_comes q_t_wants q_t_runs q_t_readKind q_t_readComes q_t_readWants q_t_queueNow q_t_servedAt q_t_comesWas q_t_readingOf q_t_readingAt q_t_sheetSize q_t_sheetLane q_t_sheet q_t_hands t_fault t_persons t_law t_bellSet t_readAt t_readLaw t_readMany t_queueMany t_servedNow t_doneAt t_readings t_whichMany t_whichOne t_whichTwo t_traceNow t_kindOf t_comes t_wants t_runs t_queueNow t_servedAt) H → va_D A (w_Mo_ringer cI cJ cS q_t q_t_kindOf q_t_comes q_t_wants q_t_runs q_t_readKind q_t_readComes q_t_readWants q_t_queueNow q_t_servedAt q_t_comesWas q_t_readingOf q_t_readingAt q_t_sheetSize q_t_sheetLane q_t_sheet q_t_hands t_fault t_persons t_law t_bellSet t_readAt t_readLaw t_readMany t_queueMany t_servedNow t_doneAt t_readings t_whichMany t_whichOne t_whichTwo t_traceNow t_kindOf t_comes t_wants t_runs t_queueNow t_servedAt) → va_S A s.heap H locs → ∀ ls : Array Slot, lv_has ls 8 [(0, .ref q_t), (1, .int p_p), (2, .int p_what), (3, .int x3), (4, .int x4), (5, .int x5)] → W p l e (headSpec wsX9_ringer rm_Mo_ringer).room s m args below meth c H locs 0 0 (MQ below (CQi D (w_Mo_ringer cI cJ cS q_t q_t_kindOf q_t_comes q_t_wants q_t_runs q_t_readKind q_t_readComes q_t_readWants q_t_queueNow q_t_servedAt q_t_comesWas q_t_readingOf q_t_readingAt q_t_sheetSize q_t_sheetLane q_t_sheet q_t_hands t_fault t_persons t_law t_bellSet t_readAt t_readLaw t_readMany o.2.1 o.2.2.1 o.2.2.2.1 t_readings t_whichMany t_whichOne t_whichTwo t_traceNow t_kindOf t_comes t_wants t_runs o.2.2.2.2.1 o.2.2.2.2.2) A o.1) args s 0 0 A) (F0 m 40 ls []) := by
    intro x3 x4 x5 t_queueMany t_servedNow t_doneAt t_queueNow t_servedAt hM
    unfold Mo_ringer_l40 at hM
    obtain ⟨n0, hM⟩ := fin_some hM
    exact (L40 n0).1 x3 x4 x5 t_queueMany t_servedNow t_doneAt t_queueNow t_servedAt hM
  have J53 : ∀ (x3 : Int32) (x4 : Int32) (x5 : Int32) (x6 : Int32) (t_queueMany : Int32) (t_servedNow : Int32) (t_doneAt : Int32) (t_queueNow : Nat → Int32) (t_servedAt : Nat → Int32), Mo_ringer_l53 p_p p_what t_persons t_law t_bellSet t_kindOf t_comes t_wants t_runs x3 x4 x5 x6 t_queueMany t_servedNow t_doneAt t_queueNow t_servedAt = some o → ∀ (H : Heap) (locs : List Loc), va_P D vwCl (w_Mo_ringer cI cJ cS q_t q_t_kindOf q_t_comes q_t_wants q_t_runs q_t_readKind q_t_readComes q_t_readWants q_t_queueNow q_t_servedAt q_t_comesWas q_t_readingOf q_t_readingAt q_t_sheetSize q_t_sheetLane q_t_sheet q_t_hands t_fault t_persons t_law t_bellSet t_readAt t_readLaw t_readMany t_queueMany t_servedNow t_doneAt t_readings t_whichMany t_whichOne t_whichTwo t_traceNow t_kindOf t_comes t_wants t_runs t_queueNow t_servedAt) H → va_D A (w_Mo_ringer cI cJ cS q_t q_t_kindOf q_t_comes q_t_wants q_t_runs q_t_readKind q_t_readComes q_t_readWants q_t_queueNow q_t_servedAt q_t_comesWas q_t_readingOf q_t_readingAt q_t_sheetSize q_t_sheetLane q_t_sheet q_t_hands t_fault t_persons t_law t_bellSet t_readAt t_readLaw t_readMany t_queueMany t_servedNow t_doneAt t_readings t_whichMany t_whichOne t_whichTwo t_traceNow t_kindOf t_comes t_wants t_runs t_queueNow t_servedAt) → va_S A s.heap H locs → ∀ ls : Array Slot, lv_has ls 8 [(0, .ref q_t), (1, .int p_p), (2, .int p_what), (3, .int x3), (4, .int x4), (5, .int x5), (6, .int x6)] → W p l e (headSpec wsX9_ringer rm_Mo_ringer).room s m args below meth c H locs 0 0 (MQ below (CQi D (w_Mo_ringer cI cJ cS q_t q_t_kindOf q_t_comes q_t_wants q_t_runs q_t_readKind q_t_readComes q_t_readWants q_t_queueNow q_t_servedAt q_t_comesWas q_t_readingOf q_t_readingAt q_t_sheetSize q_t_sheetLane q_t_sheet q_t_hands t_fault t_persons t_law t_bellSet t_readAt t_readLaw t_readMany o.2.1 o.2.2.1 o.2.2.2.1 t_readings t_whichMany t_whichOne t_whichTwo t_traceNow t_kindOf t_comes t_wants t_runs o.2.2.2.2.1 o.2.2.2.2.2) A o.1) args s 0 0 A) (F0 m 53 ls []) := by
    intro x3 x4 x5 x6 t_queueMany t_servedNow t_doneAt t_queueNow t_servedAt hM
    unfold Mo_ringer_l53 at hM
    obtain ⟨n0, hM⟩ := fin_some hM
    exact (L40 n0).2 x3 x4 x5 x6 t_queueMany t_servedNow t_doneAt t_queueNow t_servedAt hM
  unfold Mo_ringer at hM
  refine lv_aload_n hx hb dX9_ringer_0 rfl (lv_at hl 0 rfl) ?_
  refine lv_iload_n hx hb dX9_ringer_1 rfl (lv_at hl 1 rfl) ?_
  obtain ⟨y1, h2, hM⟩ := o_bd hM
  refine af_i (ws2 := (w_Mo_ringer cI cJ cS q_t q_t_kindOf q_t_comes q_t_wants q_t_runs q_t_readKind q_t_readComes q_t_readWants q_t_queueNow q_t_servedAt q_t_comesWas q_t_readingOf q_t_readingAt q_t_sheetSize q_t_sheetLane q_t_sheet q_t_hands t_fault t_persons t_law t_bellSet t_readAt t_readLaw t_readMany t_queueMany t_servedNow t_doneAt t_readings t_whichMany t_whichOne t_whichTwo t_traceNow t_kindOf t_comes t_wants t_runs t_queueNow t_servedAt)) (va_runV (As := [.int p_p]) (rest := []) ⟨hx, hb, hml, hown, hts⟩ (c_Mo_noPerson l D cI cJ cS q_t q_t_kindOf q_t_comes q_t_wants q_t_runs q_t_readKind q_t_readComes q_t_readWants q_t_queueNow q_t_servedAt q_t_comesWas q_t_readingOf q_t_readingAt q_t_sheetSize q_t_sheetLane q_t_sheet q_t_hands t_fault t_persons t_law t_bellSet t_readAt t_readLaw t_readMany t_queueMany t_servedNow t_doneAt t_readings t_whichMany t_whichOne t_whichTwo t_traceNow p_p y1 h2 _) (cwV 1 hts gX9_ringer_X9_noPerson rfl rfl rfl (by decide +kernel) ⟨(Nat.le_of_ble_eq_true rfl), (Nat.le_of_ble_eq_true rfl)⟩) (pre_V hK hP hD [0] rfl rfl rfl rfl) rfl rfl hl.1 rfl (lv_room (Nat.le_of_ble_eq_true rfl)) dX9_ringer_2 ⟨Nat.zero_le _, Nat.zero_le _⟩) hP hD hS hA [0] [1, 2, 3, 4, 5, 6] [6, 0, 1, 2, 3, 4, 5] rfl rfl rfl (by decide) rfl rfl (fun H locs hP hD hS => ?_)
  refine lv_if_eq (tgt := 10) hx hb dX9_ringer_5 (by decide) (fun c3 => ?_) (fun c3 => ?_)
  · have hM := (o_if hM).1 c3
    refine lv_iload_n hx hb dX9_ringer_10 rfl (lv_at hl 2 rfl) ?_
    refine lv_i2l (v := p_what.toInt64) hx hb dX9_ringer_11 rfl ?_
    refine lv_lconst (v := 0) hx hb dX9_ringer_12 (by decide) ?_
    refine lv_lconst (v := 1) hx hb dX9_ringer_13 (by decide) ?_
    obtain ⟨y4, h5, hM⟩ := o_bd hM
    refine af_i (ws2 := (w_Mo_ringer cI cJ cS q_t q_t_kindOf q_t_comes q_t_wants q_t_runs q_t_readKind q_t_readComes q_t_readWants q_t_queueNow q_t_servedAt q_t_comesWas q_t_readingOf q_t_readingAt q_t_sheetSize q_t_sheetLane q_t_sheet q_t_hands t_fault t_persons t_law t_bellSet t_readAt t_readLaw t_readMany t_queueMany t_servedNow t_doneAt t_readings t_whichMany t_whichOne t_whichTwo t_traceNow t_kindOf t_comes t_wants t_runs t_queueNow t_servedAt)) (va_runS (As := [.long p_what.toInt64, .long 0, .long 1]) (rest := []) ⟨hx, hb, hml, hown, hts⟩ (c_Mo_in l D cI cJ cS p_what.toInt64 0 1 y4 h5 _) (va_cwS 3 hts gX9_ringer_X9_in rfl rfl rfl (by decide +kernel) ⟨(Nat.le_of_ble_eq_true rfl), (Nat.le_of_ble_eq_true rfl)⟩) (pre_S hK hP hD [] rfl rfl) rfl rfl hl.1 rfl (lv_room (Nat.le_of_ble_eq_true rfl)) dX9_ringer_14 ⟨Nat.zero_le _, Nat.zero_le _⟩) hP hD hS hA [] [0, 1, 2, 3, 4, 5, 6] [0, 1, 2, 3, 4, 5, 6] rfl rfl rfl (by decide) rfl rfl (fun H locs hP hD hS => ?_)
    refine lv_if_ne (tgt := 23) hx hb dX9_ringer_17 (by decide) (fun c6 => ?_) (fun c6 => ?_)
    · have hM := (o_if hM).2 c6
      refine lv_bipush (v := (-9)) hx hb dX9_ringer_23 (by decide) ?_
      refine lv_istore_n (lv' := [(3, .int (-9)), (0, .ref q_t), (1, .int p_p), (2, .int p_what)]) hx hb dX9_ringer_25 rfl hl (Nat.le_of_ble_eq_true rfl) rfl (fun ls hl => ?_)
      refine lv_aload_n hx hb dX9_ringer_26 rfl (lv_at hl 1 rfl) ?_
      refine lv_iload_n hx hb dX9_ringer_27 rfl (lv_at hl 2 rfl) ?_
      refine lv_aload_n hx hb dX9_ringer_28 rfl (lv_at hl 1 rfl) ?_
      refine va_get (ci := 8) (v := .long t_bellSet) (C := RX9) (T := TX9) (N := 31) hx hb hts iX9 hown hK.1 hP 0 rfl rfl 7 (Nat.le_of_ble_eq_true rfl) k0 (fun _ h9 => h9) rfl dX9_ringer_29 ?_
      obtain ⟨y7, h8, hM⟩ := o_bd hM
      refine af_i (ws2 := (w_Mo_ringer cI cJ cS q_t q_t_kindOf q_t_comes q_t_wants q_t_runs q_t_readKind q_t_readComes q_t_readWants q_t_queueNow q_t_servedAt q_t_comesWas q_t_readingOf q_t_readingAt q_t_sheetSize q_t_sheetLane q_t_sheet q_t_hands t_fault t_persons t_law t_bellSet t_readAt t_readLaw t_readMany y7.2.1 y7.2.2.1 y7.2.2.2.1 t_readings t_whichMany t_whichOne t_whichTwo t_traceNow t_kindOf t_comes t_wants t_runs y7.2.2.2.2.1 y7.2.2.2.2.2)) (va_runV (As := [.int p_p, .long t_bellSet]) (rest := []) ⟨hx, hb, hml, hown, hts⟩ (c_Mo_servedBy l D cI cJ cS q_t q_t_kindOf q_t_comes q_t_wants q_t_runs q_t_readKind q_t_readComes q_t_readWants q_t_queueNow q_t_servedAt q_t_comesWas q_t_readingOf q_t_readingAt q_t_sheetSize q_t_sheetLane q_t_sheet q_t_hands t_fault t_persons t_law t_bellSet t_readAt t_readLaw t_readMany t_queueMany t_servedNow t_doneAt t_readings t_whichMany t_whichOne t_whichTwo t_traceNow t_kindOf t_comes t_wants t_runs t_queueNow t_servedAt p_p t_bellSet y7 h8 _) (cwV 2 hts gX9_ringer_X9_servedBy rfl rfl rfl (by decide +kernel) ⟨(Nat.le_of_ble_eq_true rfl), (Nat.le_of_ble_eq_true rfl)⟩) (pre_V hK hP hD [0, 1, 2, 3, 4, 5, 6] rfl rfl rfl rfl) rfl rfl hl.1 rfl (lv_room (Nat.le_of_ble_eq_true rfl)) dX9_ringer_32 ⟨Nat.zero_le _, Nat.zero_le _⟩) hP hD hS hA [0, 1, 2, 3, 4, 5, 6] [] [0, 1, 2, 3, 4, 5, 6] rfl rfl rfl (by decide) rfl rfl (fun H locs hP hD hS => ?_)
      refine lv_istore (lv' := [(4, .int y7.1), (3, .int (-9)), (0, .ref q_t), (1, .int p_p), (2, .int p_what)]) hx hb dX9_ringer_35 hl (Nat.le_of_ble_eq_true rfl) rfl (fun ls hl => ?_)
      refine lv_iconst (v := 0) hx hb dX9_ringer_37 (by decide) ?_
      refine lv_istore (lv' := [(5, .int 0), (4, .int y7.1), (3, .int (-9)), (0, .ref q_t), (1, .int p_p), (2, .int p_what)]) hx hb dX9_ringer_38 hl (Nat.le_of_ble_eq_true rfl) rfl (fun ls hl => ?_)
      exact J40 (-9) y7.1 0 y7.2.1 y7.2.2.1 y7.2.2.2.1 y7.2.2.2.2.1 y7.2.2.2.2.2 hM _ _ hP hD hS _ (lv_sub hl [3, 4, 5, 2, 1, 0] rfl)
    · have hM := (o_if hM).1 c6
      refine lv_bipush (v := (-2)) hx hb dX9_ringer_20 (by decide) ?_
      have hM := (Option.some.inj hM)
      subst hM
      exact rt_i hx hb hr hlocks hP hD hS dX9_ringer_22
  · have hM := (o_if hM).2 c3
    refine lv_iconst (v := (-1)) hx hb dX9_ringer_8 (by decide) ?_
    have hM := (Option.some.inj hM)
    subst hM
    exact rt_i hx hb hr hlocks hP hD hS dX9_ringer_9
/-! ===== TurnQueueModel.pays ===== -/
abbrev w_Mo_pays (cI cJ cS : ClassId) (q_t : Nat) (q_t_kindOf : Nat) (q_t_comes : Nat) (q_t_wants : Nat) (q_t_runs : Nat) (q_t_readKind : Nat) (q_t_readComes : Nat) (q_t_readWants : Nat) (q_t_queueNow : Nat) (q_t_servedAt : Nat) (q_t_comesWas : Nat) (q_t_readingOf : Nat) (q_t_readingAt : Nat) (q_t_sheetSize : Nat) (q_t_sheetLane : Nat) (q_t_sheet : Nat) (q_t_hands : Nat) (t_fault : Int32) (t_persons : Int32) (t_law : Int32) (t_bellSet : Int64) (t_readAt : Int32) (t_readLaw : Int32) (t_readMany : Int32) (t_queueMany : Int32) (t_servedNow : Int32) (t_doneAt : Int32) (t_readings : Int32) (t_whichMany : Int32) (t_whichOne : Int32) (t_whichTwo : Int32) (t_traceNow : Int32) (t_kindOf : Nat → Int32) (t_comes : Nat → Int32) (t_wants : Nat → Int32) (t_runs : Nat → Int32) (t_queueNow : Nat → Int32) (t_servedAt : Nat → Int32) : va_W := [(q_t, .inr (8, [.int t_fault, .int t_persons, .int t_law, .ref q_t_kindOf, .ref q_t_comes, .ref q_t_wants, .ref q_t_runs, .long t_bellSet, .int t_readAt, .int t_readLaw, .int t_readMany, .ref q_t_readKind, .ref q_t_readComes, .ref q_t_readWants, .ref q_t_queueNow, .int t_queueMany, .int t_servedNow, .int t_doneAt, .ref q_t_servedAt, .ref q_t_comesWas, .int t_readings, .ref q_t_readingOf, .ref q_t_readingAt, .int t_whichMany, .int t_whichOne, .int t_whichTwo, .ref q_t_sheetSize, .ref q_t_sheetLane, .ref q_t_sheet, .ref q_t_hands, .int t_traceNow])), (q_t_kindOf, ar cI 7 t_kindOf), (q_t_comes, ar cI 7 t_comes), (q_t_wants, ar cI 7 t_wants), (q_t_runs, ar cI 7 t_runs), (q_t_queueNow, ar cI 7 t_queueNow), (q_t_servedAt, ar cI 7 t_servedAt)]
abbrev rm_Mo_pays : Room := { frames := 5, cells := 0, slots := 0, locals := 117 }
noncomputable def Mo_pays_j100 (p_p : Int32) (p_what : Int32) (t_persons : Int32) (t_law : Int32) (t_bellSet : Int64) (t_kindOf : Nat → Int32) (t_comes : Nat → Int32) (t_wants : Nat → Int32) (x4 : Int32) (x5 : Int32) (x6 : Int32) (t_queueMany : Int32) (t_servedNow : Int32) (t_doneAt : Int32) (t_runs : Nat → Int32) (t_queueNow : Nat → Int32) (t_servedAt : Nat → Int32) : Option (Int32 × Int32 × Int32 × Int32 × (Nat → Int32) × (Nat → Int32) × (Nat → Int32)) :=
  if ck p_p 7 = true then
    if p_what = 0 then
      some (x5, t_queueMany, t_servedNow, t_doneAt, upd t_runs p_p.toNatClampNeg x4, t_queueNow, t_servedAt)
    else
      some (x6, t_queueMany, t_servedNow, t_doneAt, upd t_runs p_p.toNatClampNeg x4, t_queueNow, t_servedAt)
  else none
noncomputable def Mo_pays_b51 (p_p : Int32) (p_what : Int32) (t_persons : Int32) (t_law : Int32) (t_bellSet : Int64) (t_kindOf : Nat → Int32) (t_comes : Nat → Int32) (t_wants : Nat → Int32) (x3 : Int32) (x4 : Int32) (x5 : Int32) (x6 : Int32) (x7 : Int32) (t_queueMany : Int32) (t_servedNow : Int32) (t_doneAt : Int32) (t_runs : Nat → Int32) (t_queueNow : Nat → Int32) (t_servedAt : Nat → Int32) : Option ((Int32 × Int32 × Int32 × Int32 × Int32 × Int32 × Int32 × Int32 × (Nat → Int32) × (Nat → Int32) × (Nat → Int32)) ⊕ (Int32 × Int32 × Int32 × Int32 × (Nat → Int32) × (Nat → Int32) × (Nat → Int32))) :=
  if 60 ≤ x7 then
    ex (Mo_pays_j100 p_p p_what t_persons t_law t_bellSet t_kindOf t_comes t_wants x4 x5 x6 t_queueMany t_servedNow t_doneAt t_runs t_queueNow t_servedAt)
  else
    if ck p_p 7 = true then
      (Mo_servedBy p_p t_bellSet t_persons t_law t_kindOf t_comes t_wants (upd t_runs p_p.toNatClampNeg x7) t_queueMany t_servedNow t_doneAt t_queueNow t_servedAt).bind fun y15 =>
      lt (x3 - y15.1) fun y17 =>
      if y17 ≤ x5 then
        lt (x7 + 1) fun y19 =>
        some (.inl (x3, x4, x5, x6, y19, y15.2.1, y15.2.2.1, y15.2.2.2.1, upd t_runs p_p.toNatClampNeg x7, y15.2.2.2.2.1, y15.2.2.2.2.2))
      else
        lt (x7 + 1) fun y20 =>
        some (.inl (x3, x4, y17, x7, y20, y15.2.1, y15.2.2.1, y15.2.2.2.1, upd t_runs p_p.toNatClampNeg x7, y15.2.2.2.2.1, y15.2.2.2.2.2))
    else none
noncomputable def Mo_pays_s51 (p_p : Int32) (p_what : Int32) (t_persons : Int32) (t_law : Int32) (t_bellSet : Int64) (t_kindOf : Nat → Int32) (t_comes : Nat → Int32) (t_wants : Nat → Int32) : (Int32 × Int32 × Int32 × Int32 × Int32 × Int32 × Int32 × Int32 × (Nat → Int32) × (Nat → Int32) × (Nat → Int32)) → Option ((Int32 × Int32 × Int32 × Int32 × Int32 × Int32 × Int32 × Int32 × (Nat → Int32) × (Nat → Int32) × (Nat → Int32)) ⊕ (Int32 × Int32 × Int32 × Int32 × (Nat → Int32) × (Nat → Int32) × (Nat → Int32))) := fun x => Mo_pays_b51 p_p p_what t_persons t_law t_bellSet t_kindOf t_comes t_wants x.1 x.2.1 x.2.2.1 x.2.2.2.1 x.2.2.2.2.1 x.2.2.2.2.2.1 x.2.2.2.2.2.2.1 x.2.2.2.2.2.2.2.1 x.2.2.2.2.2.2.2.2.1 x.2.2.2.2.2.2.2.2.2.1 x.2.2.2.2.2.2.2.2.2.2
noncomputable def Mo_pays_l51 (p_p : Int32) (p_what : Int32) (t_persons : Int32) (t_law : Int32) (t_bellSet : Int64) (t_kindOf : Nat → Int32) (t_comes : Nat → Int32) (t_wants : Nat → Int32) (x3 : Int32) (x4 : Int32) (x5 : Int32) (x6 : Int32) (x7 : Int32) (t_queueMany : Int32) (t_servedNow : Int32) (t_doneAt : Int32) (t_runs : Nat → Int32) (t_queueNow : Nat → Int32) (t_servedAt : Nat → Int32) : Option (Int32 × Int32 × Int32 × Int32 × (Nat → Int32) × (Nat → Int32) × (Nat → Int32)) := fin (Mo_pays_s51 p_p p_what t_persons t_law t_bellSet t_kindOf t_comes t_wants) (x3, x4, x5, x6, x7, t_queueMany, t_servedNow, t_doneAt, t_runs, t_queueNow, t_servedAt)
noncomputable def Mo_pays (p_p : Int32) (p_what : Int32) (t_persons : Int32) (t_law : Int32) (t_bellSet : Int64) (t_kindOf : Nat → Int32) (t_comes : Nat → Int32) (t_wants : Nat → Int32) (t_queueMany : Int32) (t_servedNow : Int32) (t_doneAt : Int32) (t_runs : Nat → Int32) (t_queueNow : Nat → Int32) (t_servedAt : Nat → Int32) : Option (Int32 × Int32 × Int32 × Int32 × (Nat → Int32) × (Nat → Int32) × (Nat → Int32)) :=
  (Mo_noPerson p_p t_persons).bind fun y1 =>
  if y1 = 0 then
    (Mo_in p_what.toInt64 0 1).bind fun y4 =>
    if y4 = 0 then
      some ((-2), t_queueMany, t_servedNow, t_doneAt, t_runs, t_queueNow, t_servedAt)
    else
      (Mo_servedBy p_p t_bellSet t_persons t_law t_kindOf t_comes t_wants t_runs t_queueMany t_servedNow t_doneAt t_queueNow t_servedAt).bind fun y7 =>
      if ck p_p 7 = true then
        lt (t_runs p_p.toNatClampNeg) fun y10 =>
        Mo_pays_l51 p_p p_what t_persons t_law t_bellSet t_kindOf t_comes t_wants y7.1 y10 0 (-9) 0 y7.2.1 y7.2.2.1 y7.2.2.2.1 t_runs y7.2.2.2.2.1 y7.2.2.2.2.2
      else none
  else
    some ((-1), t_queueMany, t_servedNow, t_doneAt, t_runs, t_queueNow, t_servedAt)
theorem Mo_pays_l51_eq (p_p : Int32) (p_what : Int32) (t_persons : Int32) (t_law : Int32) (t_bellSet : Int64) (t_kindOf : Nat → Int32) (t_comes : Nat → Int32) (t_wants : Nat → Int32) (x3 : Int32) (x4 : Int32) (x5 : Int32) (x6 : Int32) (x7 : Int32) (t_queueMany : Int32) (t_servedNow : Int32) (t_doneAt : Int32) (t_runs : Nat → Int32) (t_queueNow : Nat → Int32) (t_servedAt : Nat → Int32) : Mo_pays_l51 p_p p_what t_persons t_law t_bellSet t_kindOf t_comes t_wants x3 x4 x5 x6 x7 t_queueMany t_servedNow t_doneAt t_runs t_queueNow t_servedAt = (Mo_pays_b51 p_p p_what t_persons t_law t_bellSet t_kindOf t_comes t_wants x3 x4 x5 x6 x7 t_queueMany t_servedNow t_doneAt t_runs t_queueNow t_servedAt).bind (sg (fin (Mo_pays_s51 p_p p_what t_persons t_law t_bellSet t_kindOf t_comes t_wants))) := by
  unfold Mo_pays_l51
  exact fin_eq _ _
theorem Mo_pays_l51_fd (p_p : Int32) (p_what : Int32) (t_persons : Int32) (t_law : Int32) (t_bellSet : Int64) (t_kindOf : Nat → Int32) (t_comes : Nat → Int32) (t_wants : Nat → Int32) (x3 : Int32) (x4 : Int32) (x5 : Int32) (x6 : Int32) (x7 : Int32) (t_queueMany : Int32) (t_servedNow : Int32) (t_doneAt : Int32) (t_runs : Nat → Int32) (t_queueNow : Nat → Int32) (t_servedAt : Nat → Int32) : fin (Mo_pays_s51 p_p p_what t_persons t_law t_bellSet t_kindOf t_comes t_wants) (x3, x4, x5, x6, x7, t_queueMany, t_servedNow, t_doneAt, t_runs, t_queueNow, t_servedAt) = Mo_pays_l51 p_p p_what t_persons t_law t_bellSet t_kindOf t_comes t_wants x3 x4 x5 x6 x7 t_queueMany t_servedNow t_doneAt t_runs t_queueNow t_servedAt := rfl
set_option maxRecDepth 100000 in
set_option maxHeartbeats 4000000 in
theorem c_Mo_pays (l : Launch) (D : va_G) (cI cJ cS : ClassId) (q_t q_t_kindOf q_t_comes q_t_wants q_t_runs q_t_readKind q_t_readComes q_t_readWants q_t_queueNow q_t_servedAt q_t_comesWas q_t_readingOf q_t_readingAt q_t_sheetSize q_t_sheetLane q_t_sheet q_t_hands : Nat) (t_fault : Int32) (t_persons : Int32) (t_law : Int32) (t_bellSet : Int64) (t_readAt : Int32) (t_readLaw : Int32) (t_readMany : Int32) (t_queueMany : Int32) (t_servedNow : Int32) (t_doneAt : Int32) (t_readings : Int32) (t_whichMany : Int32) (t_whichOne : Int32) (t_whichTwo : Int32) (t_traceNow : Int32) (t_kindOf : Nat → Int32) (t_comes : Nat → Int32) (t_wants : Nat → Int32) (t_runs : Nat → Int32) (t_queueNow : Nat → Int32) (t_servedAt : Nat → Int32) (p_p : Int32) (p_what : Int32) (o : Int32 × Int32 × Int32 × Int32 × (Nat → Int32) × (Nat → Int32) × (Nat → Int32)) (hM : Mo_pays p_p p_what t_persons t_law t_bellSet t_kindOf t_comes t_wants t_queueMany t_servedNow t_doneAt t_runs t_queueNow t_servedAt = some o) : Ci l yX9_pays wsX9_pays rm_Mo_pays D cI cJ cS [.ref q_t, .int p_p, .int p_what] (w_Mo_pays cI cJ cS q_t q_t_kindOf q_t_comes q_t_wants q_t_runs q_t_readKind q_t_readComes q_t_readWants q_t_queueNow q_t_servedAt q_t_comesWas q_t_readingOf q_t_readingAt q_t_sheetSize q_t_sheetLane q_t_sheet q_t_hands t_fault t_persons t_law t_bellSet t_readAt t_readLaw t_readMany t_queueMany t_servedNow t_doneAt t_readings t_whichMany t_whichOne t_whichTwo t_traceNow t_kindOf t_comes t_wants t_runs t_queueNow t_servedAt) (w_Mo_pays cI cJ cS q_t q_t_kindOf q_t_comes q_t_wants q_t_runs q_t_readKind q_t_readComes q_t_readWants q_t_queueNow q_t_servedAt q_t_comesWas q_t_readingOf q_t_readingAt q_t_sheetSize q_t_sheetLane q_t_sheet q_t_hands t_fault t_persons t_law t_bellSet t_readAt t_readLaw t_readMany o.2.1 o.2.2.1 o.2.2.2.1 t_readings t_whichMany t_whichOne t_whichTwo t_traceNow t_kindOf t_comes t_wants o.2.2.2.2.1 o.2.2.2.2.2.1 o.2.2.2.2.2.2) o.1 := by
  refine Ci.of (cc := cX9_pays) (maxL := 9) (ret := (some .int)) (by decide) rfl (Nat.le_of_ble_eq_true rfl) ?_
  intro p e s m args below meth c A ls hE
  obtain ⟨hx, hb, hr, hml, hown, hts, hlocks, hK, hA, hP, hD, hS, hl⟩ := hE
  have hown : s.vm.findClass RX9 = some m.cls := hown
  have hl : lv_has ls 9 [(0, .ref q_t), (1, .int p_p), (2, .int p_what)] := hl
  have iX9 : ∀ w ∈ u_ws RX9 TX9 31, w ∈ wsX9_pays := by decide +kernel
  have k0 := hts (.fieldLink RX9 121 "TurnQueueModel" "bellSet" "J") (by decide +kernel)
  have k1 := hts (.fieldLink RX9 19 "TurnQueueModel" "runs" "[I") (by decide +kernel)
  have J100 : ∀ (x4 : Int32) (x5 : Int32) (x6 : Int32) (t_queueMany : Int32) (t_servedNow : Int32) (t_doneAt : Int32) (t_runs : Nat → Int32) (t_queueNow : Nat → Int32) (t_servedAt : Nat → Int32), Mo_pays_j100 p_p p_what t_persons t_law t_bellSet t_kindOf t_comes t_wants x4 x5 x6 t_queueMany t_servedNow t_doneAt t_runs t_queueNow t_servedAt = some o → ∀ (H : Heap) (locs : List Loc), va_P D vwCl (w_Mo_pays cI cJ cS q_t q_t_kindOf q_t_comes q_t_wants q_t_runs q_t_readKind q_t_readComes q_t_readWants q_t_queueNow q_t_servedAt q_t_comesWas q_t_readingOf q_t_readingAt q_t_sheetSize q_t_sheetLane q_t_sheet q_t_hands t_fault t_persons t_law t_bellSet t_readAt t_readLaw t_readMany t_queueMany t_servedNow t_doneAt t_readings t_whichMany t_whichOne t_whichTwo t_traceNow t_kindOf t_comes t_wants t_runs t_queueNow t_servedAt) H → va_D A (w_Mo_pays cI cJ cS q_t q_t_kindOf q_t_comes q_t_wants q_t_runs q_t_readKind q_t_readComes q_t_readWants q_t_queueNow q_t_servedAt q_t_comesWas q_t_readingOf q_t_readingAt q_t_sheetSize q_t_sheetLane q_t_sheet q_t_hands t_fault t_persons t_law t_bellSet t_readAt t_readLaw t_readMany t_queueMany t_servedNow t_doneAt t_readings t_whichMany t_whichOne t_whichTwo t_traceNow t_kindOf t_comes t_wants t_runs t_queueNow t_servedAt) → va_S A s.heap H locs → ∀ ls : Array Slot, lv_has ls 9 [(0, .ref q_t), (1, .int p_p), (2, .int p_what), (4, .int x4), (5, .int x5), (6, .int x6)] → W p l e (headSpec wsX9_pays rm_Mo_pays).room s m args below meth c H locs 0 0 (MQ below (CQi D (w_Mo_pays cI cJ cS q_t q_t_kindOf q_t_comes q_t_wants q_t_runs q_t_readKind q_t_readComes q_t_readWants q_t_queueNow q_t_servedAt q_t_comesWas q_t_readingOf q_t_readingAt q_t_sheetSize q_t_sheetLane q_t_sheet q_t_hands t_fault t_persons t_law t_bellSet t_readAt t_readLaw t_readMany o.2.1 o.2.2.1 o.2.2.2.1 t_readings t_whichMany t_whichOne t_whichTwo t_traceNow t_kindOf t_comes t_wants o.2.2.2.2.1 o.2.2.2.2.2.1 o.2.2.2.2.2.2) A o.1) args s 0 0 A) (F0 m 100 ls []) := by
    intro x4 x5 x6 t_queueMany t_servedNow t_doneAt t_runs t_queueNow t_servedAt hM H locs hP hD hS ls hl
    unfold Mo_pays_j100 at hM
    refine lv_aload_n hx hb dX9_pays_100 rfl (lv_at hl 0 rfl) ?_
    refine va_get (ci := 8) (v := .ref q_t_runs) (C := RX9) (T := TX9) (N := 31) hx hb hts iX9 hown hK.1 hP 0 rfl rfl 6 (Nat.le_of_ble_eq_true rfl) k1 (fun _ h9 => h9) rfl dX9_pays_101 ?_
    refine lv_iload_n hx hb dX9_pays_104 rfl (lv_at hl 1 rfl) ?_
    refine lv_iload hx hb dX9_pays_105 (lv_at hl 3 rfl) ?_
    obtain ⟨h12, hM⟩ := o_ck hM
    refine va_iast hx hb hK.1 hP hD hS 4 0 rfl rfl h12 dX9_pays_107 (fun H locs hP hD hS => ?_)
    have hP : va_P D vwCl (w_Mo_pays cI cJ cS q_t q_t_kindOf q_t_comes q_t_wants q_t_runs q_t_readKind q_t_readComes q_t_readWants q_t_queueNow q_t_servedAt q_t_comesWas q_t_readingOf q_t_readingAt q_t_sheetSize q_t_sheetLane q_t_sheet q_t_hands t_fault t_persons t_law t_bellSet t_readAt t_readLaw t_readMany t_queueMany t_servedNow t_doneAt t_readings t_whichMany t_whichOne t_whichTwo t_traceNow t_kindOf t_comes t_wants (upd t_runs p_p.toNatClampNeg x4) t_queueNow t_servedAt) H := hP
    have hD : va_D A (w_Mo_pays cI cJ cS q_t q_t_kindOf q_t_comes q_t_wants q_t_runs q_t_readKind q_t_readComes q_t_readWants q_t_queueNow q_t_servedAt q_t_comesWas q_t_readingOf q_t_readingAt q_t_sheetSize q_t_sheetLane q_t_sheet q_t_hands t_fault t_persons t_law t_bellSet t_readAt t_readLaw t_readMany t_queueMany t_servedNow t_doneAt t_readings t_whichMany t_whichOne t_whichTwo t_traceNow t_kindOf t_comes t_wants (upd t_runs p_p.toNatClampNeg x4) t_queueNow t_servedAt) := hD
    refine lv_iload_n hx hb dX9_pays_108 rfl (lv_at hl 2 rfl) ?_
    refine lv_if_ne (tgt := 117) hx hb dX9_pays_109 (by decide) (fun c13 => ?_) (fun c13 => ?_)
    · have hM := (o_if hM).2 c13
      refine lv_iload hx hb dX9_pays_117 (lv_at hl 5 rfl) ?_
      have hM := (Option.some.inj hM)
      subst hM
      exact rt_i hx hb hr hlocks hP hD hS dX9_pays_119
    · have hM := (o_if hM).1 c13
      refine lv_iload hx hb dX9_pays_112 (lv_at hl 4 rfl) ?_
      refine lv_goto (tgt := 119) hx hb dX9_pays_114 (by decide) ?_
      have hM := (Option.some.inj hM)
      subst hM
      exact rt_i hx hb hr hlocks hP hD hS dX9_pays_119
  have L51 : ∀ n : Nat, (∀ (x3 : Int32) (x4 : Int32) (x5 : Int32) (x6 : Int32) (x7 : Int32) (t_queueMany : Int32) (t_servedNow : Int32) (t_doneAt : Int32) (t_runs : Nat → Int32) (t_queueNow : Nat → Int32) (t_servedAt : Nat → Int32), itr (Mo_pays_s51 p_p p_what t_persons t_law t_bellSet t_kindOf t_comes t_wants) n (x3, x4, x5, x6, x7, t_queueMany, t_servedNow, t_doneAt, t_runs, t_queueNow, t_servedAt) = some o → ∀ (H : Heap) (locs : List Loc), va_P D vwCl (w_Mo_pays cI cJ cS q_t q_t_kindOf q_t_comes q_t_wants q_t_runs q_t_readKind q_t_readComes q_t_readWants q_t_queueNow q_t_servedAt q_t_comesWas q_t_readingOf q_t_readingAt q_t_sheetSize q_t_sheetLane q_t_sheet q_t_hands t_fault t_persons t_law t_bellSet t_readAt t_readLaw t_readMany t_queueMany t_servedNow t_doneAt t_readings t_whichMany t_whichOne t_whichTwo t_traceNow t_kindOf t_comes t_wants t_runs t_queueNow t_servedAt) H → va_D A (w_Mo_pays cI cJ cS q_t q_t_kindOf q_t_comes q_t_wants q_t_runs q_t_readKind q_t_readComes q_t_readWants q_t_queueNow q_t_servedAt q_t_comesWas q_t_readingOf q_t_readingAt q_t_sheetSize q_t_sheetLane q_t_sheet q_t_hands t_fault t_persons t_law t_bellSet t_readAt t_readLaw t_readMany t_queueMany t_servedNow t_doneAt t_readings t_whichMany t_whichOne t_whichTwo t_traceNow t_kindOf t_comes t_wants t_runs t_queueNow t_servedAt) → va_S A s.heap H locs → ∀ ls : Array Slot, lv_has ls 9 [(0, .ref q_t), (1, .int p_p), (2, .int p_what), (3, .int x3), (4, .int x4), (5, .int x5), (6, .int x6), (7, .int x7)] → W p l e (headSpec wsX9_pays rm_Mo_pays).room s m args below meth c H locs 0 0 (MQ below (CQi D (w_Mo_pays cI cJ cS q_t q_t_kindOf q_t_comes q_t_wants q_t_runs q_t_readKind q_t_readComes q_t_readWants q_t_queueNow q_t_servedAt q_t_comesWas q_t_readingOf q_t_readingAt q_t_sheetSize q_t_sheetLane q_t_sheet q_t_hands t_fault t_persons t_law t_bellSet t_readAt t_readLaw t_readMany o.2.1 o.2.2.1 o.2.2.2.1 t_readings t_whichMany t_whichOne t_whichTwo t_traceNow t_kindOf t_comes t_wants o.2.2.2.2.1 o.2.2.2.2.2.1 o.2.2.2.2.2.2) A o.1) args s 0 0 A) (F0 m 51 ls [])) := by
    intro n
    induction n with
    | zero => exact fun _ _ _ _ _ _ _ _ _ _ _ hM => (itr_0 hM).elim
    | succ n ih =>
      intro x3 x4 x5 x6 x7 t_queueMany t_servedNow t_doneAt t_runs t_queueNow t_servedAt hM H locs hP hD hS ls hl
      have hM : (Mo_pays_b51 p_p p_what t_persons t_law t_bellSet t_kindOf t_comes t_wants x3 x4 x5 x6 x7 t_queueMany t_servedNow t_doneAt t_runs t_queueNow t_servedAt).bind (sg (itr (Mo_pays_s51 p_p p_what t_persons t_law t_bellSet t_kindOf t_comes t_wants) n)) = some o := hM
      unfold Mo_pays_b51 at hM
      refine lv_iload hx hb dX9_pays_51 (lv_at hl 7 rfl) ?_
      refine lv_bipush (v := 60) hx hb dX9_pays_53 (by decide) ?_
      refine lv_icmp_ge (tgt := 100) hx hb dX9_pays_55 (by decide) (fun c11 => ?_) (fun c11 => ?_)
      · have hM := (s_if hM).1 c11
        exact J100 x4 x5 x6 t_queueMany t_servedNow t_doneAt t_runs t_queueNow t_servedAt (s_ex hM) _ _ hP hD hS _ (lv_sub hl [0, 1, 2, 4, 5, 6] rfl)
      · have hM := (s_if hM).2 c11
        refine lv_aload_n hx hb dX9_pays_58 rfl (lv_at hl 0 rfl) ?_
        refine va_get (ci := 8) (v := .ref q_t_runs) (C := RX9) (T := TX9) (N := 31) hx hb hts iX9 hown hK.1 hP 0 rfl rfl 6 (Nat.le_of_ble_eq_true rfl) k1 (fun _ h9 => h9) rfl dX9_pays_59 ?_
        refine lv_iload_n hx hb dX9_pays_62 rfl (lv_at hl 1 rfl) ?_
        refine lv_iload hx hb dX9_pays_63 (lv_at hl 7 rfl) ?_
        obtain ⟨h14, hM⟩ := s_ck hM
        refine va_iast hx hb hK.1 hP hD hS 4 0 rfl rfl h14 dX9_pays_65 (fun H locs hP hD hS => ?_)
        have hP : va_P D vwCl (w_Mo_pays cI cJ cS q_t q_t_kindOf q_t_comes q_t_wants q_t_runs q_t_readKind q_t_readComes q_t_readWants q_t_queueNow q_t_servedAt q_t_comesWas q_t_readingOf q_t_readingAt q_t_sheetSize q_t_sheetLane q_t_sheet q_t_hands t_fault t_persons t_law t_bellSet t_readAt t_readLaw t_readMany t_queueMany t_servedNow t_doneAt t_readings t_whichMany t_whichOne t_whichTwo t_traceNow t_kindOf t_comes t_wants (upd t_runs p_p.toNatClampNeg x7) t_queueNow t_servedAt) H := hP
        have hD : va_D A (w_Mo_pays cI cJ cS q_t q_t_kindOf q_t_comes q_t_wants q_t_runs q_t_readKind q_t_readComes q_t_readWants q_t_queueNow q_t_servedAt q_t_comesWas q_t_readingOf q_t_readingAt q_t_sheetSize q_t_sheetLane q_t_sheet q_t_hands t_fault t_persons t_law t_bellSet t_readAt t_readLaw t_readMany t_queueMany t_servedNow t_doneAt t_readings t_whichMany t_whichOne t_whichTwo t_traceNow t_kindOf t_comes t_wants (upd t_runs p_p.toNatClampNeg x7) t_queueNow t_servedAt) := hD
        refine lv_iload_n hx hb dX9_pays_66 rfl (lv_at hl 3 rfl) ?_
        refine lv_aload_n hx hb dX9_pays_67 rfl (lv_at hl 0 rfl) ?_
        refine lv_iload_n hx hb dX9_pays_68 rfl (lv_at hl 1 rfl) ?_
        refine lv_aload_n hx hb dX9_pays_69 rfl (lv_at hl 0 rfl) ?_
        refine va_get (ci := 8) (v := .long t_bellSet) (C := RX9) (T := TX9) (N := 31) hx hb hts iX9 hown hK.1 hP 0 rfl rfl 7 (Nat.le_of_ble_eq_true rfl) k0 (fun _ h9 => h9) rfl dX9_pays_70 ?_
        obtain ⟨y15, h16, hM⟩ := s_bd hM
        refine af_i (ws2 := (w_Mo_pays cI cJ cS q_t q_t_kindOf q_t_comes q_t_wants q_t_runs q_t_readKind q_t_readComes q_t_readWants q_t_queueNow q_t_servedAt q_t_comesWas q_t_readingOf q_t_readingAt q_t_sheetSize q_t_sheetLane q_t_sheet q_t_hands t_fault t_persons t_law t_bellSet t_readAt t_readLaw t_readMany y15.2.1 y15.2.2.1 y15.2.2.2.1 t_readings t_whichMany t_whichOne t_whichTwo t_traceNow t_kindOf t_comes t_wants (upd t_runs p_p.toNatClampNeg x7) y15.2.2.2.2.1 y15.2.2.2.2.2)) (va_runV (As := [.int p_p, .long t_bellSet]) (rest := [.int x3]) ⟨hx, hb, hml, hown, hts⟩ (c_Mo_servedBy l D cI cJ cS q_t q_t_kindOf q_t_comes q_t_wants q_t_runs q_t_readKind q_t_readComes q_t_readWants q_t_queueNow q_t_servedAt q_t_comesWas q_t_readingOf q_t_readingAt q_t_sheetSize q_t_sheetLane q_t_sheet q_t_hands t_fault t_persons t_law t_bellSet t_readAt t_readLaw t_readMany t_queueMany t_servedNow t_doneAt t_readings t_whichMany t_whichOne t_whichTwo t_traceNow t_kindOf t_comes t_wants (upd t_runs p_p.toNatClampNeg x7) t_queueNow t_servedAt p_p t_bellSet y15 h16 _) (cwV 2 hts gX9_pays_X9_servedBy rfl rfl rfl (by decide +kernel) ⟨(Nat.le_of_ble_eq_true rfl), (Nat.le_of_ble_eq_true rfl)⟩) (pre_V hK hP hD [0, 1, 2, 3, 4, 5, 6] rfl rfl rfl rfl) rfl rfl hl.1 rfl (lv_room (Nat.le_of_ble_eq_true rfl)) dX9_pays_73 ⟨Nat.zero_le _, Nat.zero_le _⟩) hP hD hS hA [0, 1, 2, 3, 4, 5, 6] [] [0, 1, 2, 3, 4, 5, 6] rfl rfl rfl (by decide) rfl rfl (fun H locs hP hD hS => ?_)
        refine lv_isub hx hb dX9_pays_76 ?_
        refine lv_topi (fun y17 ey17 => ?_)
        have hM := s_lt hM y17 ey17
        refine lv_istore (lv' := [(8, .int y17), (0, .ref q_t), (1, .int p_p), (2, .int p_what), (3, .int x3), (4, .int x4), (5, .int x5), (6, .int x6), (7, .int x7)]) hx hb dX9_pays_77 hl (Nat.le_of_ble_eq_true rfl) rfl (fun ls hl => ?_)
        refine lv_iload hx hb dX9_pays_79 (lv_at hl 0 rfl) ?_
        refine lv_iload hx hb dX9_pays_81 (lv_at hl 6 rfl) ?_
        refine lv_icmp_le (tgt := 94) hx hb dX9_pays_83 (by decide) (fun c18 => ?_) (fun c18 => ?_)
        · have hM := (s_if hM).1 c18
          obtain ⟨y19, ey19⟩ : ∃ y : Int32, y = x7 + 1 := ⟨_, rfl⟩
          have hM := s_lt hM y19 ey19
          refine lv_iinc (v := y19) (lv' := [(7, .int y19), (8, .int y17), (0, .ref q_t), (1, .int p_p), (2, .int p_what), (3, .int x3), (4, .int x4), (5, .int x5), (6, .int x6)]) hx hb dX9_pays_94 hl (k := 8) rfl (by rw [ey19]; rfl) (Nat.le_of_ble_eq_true rfl) rfl (fun ls hl => ?_)
          refine lv_goto (tgt := 51) hx hb dX9_pays_97 (by decide) ?_
          exact ih x3 x4 x5 x6 y19 y15.2.1 y15.2.2.1 y15.2.2.2.1 (upd t_runs p_p.toNatClampNeg x7) y15.2.2.2.2.1 y15.2.2.2.2.2 (s_jp hM) _ _ hP hD hS _ (lv_sub hl [2, 3, 4, 5, 6, 7, 8, 0] rfl)
        · have hM := (s_if hM).2 c18
          refine lv_iload hx hb dX9_pays_86 (lv_at hl 0 rfl) ?_
          refine lv_istore (lv' := [(5, .int y17), (8, .int y17), (0, .ref q_t), (1, .int p_p), (2, .int p_what), (3, .int x3), (4, .int x4), (6, .int x6), (7, .int x7)]) hx hb dX9_pays_88 hl (Nat.le_of_ble_eq_true rfl) rfl (fun ls hl => ?_)
          refine lv_iload hx hb dX9_pays_90 (lv_at hl 8 rfl) ?_
          refine lv_istore (lv' := [(6, .int x7), (5, .int y17), (8, .int y17), (0, .ref q_t), (1, .int p_p), (2, .int p_what), (3, .int x3), (4, .int x4), (7, .int x7)]) hx hb dX9_pays_92 hl (Nat.le_of_ble_eq_true rfl) rfl (fun ls hl => ?_)
          obtain ⟨y20, ey20⟩ : ∃ y : Int32, y = x7 + 1 := ⟨_, rfl⟩
          have hM := s_lt hM y20 ey20
          refine lv_iinc (v := y20) (lv' := [(7, .int y20), (6, .int x7), (5, .int y17), (8, .int y17), (0, .ref q_t), (1, .int p_p), (2, .int p_what), (3, .int x3), (4, .int x4)]) hx hb dX9_pays_94 hl (k := 8) rfl (by rw [ey20]; rfl) (Nat.le_of_ble_eq_true rfl) rfl (fun ls hl => ?_)
          refine lv_goto (tgt := 51) hx hb dX9_pays_97 (by decide) ?_
          exact ih x3 x4 y17 x7 y20 y15.2.1 y15.2.2.1 y15.2.2.2.1 (upd t_runs p_p.toNatClampNeg x7) y15.2.2.2.2.1 y15.2.2.2.2.2 (s_jp hM) _ _ hP hD hS _ (lv_sub hl [4, 5, 6, 7, 8, 2, 1, 0] rfl)
  have J51 : ∀ (x3 : Int32) (x4 : Int32) (x5 : Int32) (x6 : Int32) (x7 : Int32) (t_queueMany : Int32) (t_servedNow : Int32) (t_doneAt : Int32) (t_runs : Nat → Int32) (t_queueNow : Nat → Int32) (t_servedAt : Nat → Int32), Mo_pays_l51 p_p p_what t_persons t_law t_bellSet t_kindOf t_comes t_wants x3 x4 x5 x6 x7 t_queueMany t_servedNow t_doneAt t_runs t_queueNow t_servedAt = some o → ∀ (H : Heap) (locs : List Loc), va_P D vwCl (w_Mo_pays cI cJ cS q_t q_t_kindOf q_t_comes q_t_wants q_t_runs q_t_readKind q_t_readComes q_t_readWants q_t_queueNow q_t_servedAt q_t_comesWas q_t_readingOf q_t_readingAt q_t_sheetSize q_t_sheetLane q_t_sheet q_t_hands t_fault t_persons t_law t_bellSet t_readAt t_readLaw t_readMany t_queueMany t_servedNow t_doneAt t_readings t_whichMany t_whichOne t_whichTwo t_traceNow t_kindOf t_comes t_wants t_runs t_queueNow t_servedAt) H → va_D A (w_Mo_pays cI cJ cS q_t q_t_kindOf q_t_comes q_t_wants q_t_runs q_t_readKind q_t_readComes q_t_readWants q_t_queueNow q_t_servedAt q_t_comesWas q_t_readingOf q_t_readingAt q_t_sheetSize q_t_sheetLane q_t_sheet q_t_hands t_fault t_persons t_law t_bellSet t_readAt t_readLaw t_readMany t_queueMany t_servedNow t_doneAt t_readings t_whichMany t_whichOne t_whichTwo t_traceNow t_kindOf t_comes t_wants t_runs t_queueNow t_servedAt) → va_S A s.heap H locs → ∀ ls : Array Slot, lv_has ls 9 [(0, .ref q_t), (1, .int p_p), (2, .int p_what), (3, .int x3), (4, .int x4), (5, .int x5), (6, .int x6), (7, .int x7)] → W p l e (headSpec wsX9_pays rm_Mo_pays).room s m args below meth c H locs 0 0 (MQ below (CQi D (w_Mo_pays cI cJ cS q_t q_t_kindOf q_t_comes q_t_wants q_t_runs q_t_readKind q_t_readComes q_t_readWants q_t_queueNow q_t_servedAt q_t_comesWas q_t_readingOf q_t_readingAt q_t_sheetSize q_t_sheetLane q_t_sheet q_t_hands t_fault t_persons t_law t_bellSet t_readAt t_readLaw t_readMany o.2.1 o.2.2.1 o.2.2.2.1 t_readings t_whichMany t_whichOne t_whichTwo t_traceNow t_kindOf t_comes t_wants o.2.2.2.2.1 o.2.2.2.2.2.1 o.2.2.2.2.2.2) A o.1) args s 0 0 A) (F0 m 51 ls []) := by
    intro x3 x4 x5 x6 x7 t_queueMany t_servedNow t_doneAt t_runs t_queueNow t_servedAt hM
    unfold Mo_pays_l51 at hM
    obtain ⟨n0, hM⟩ := fin_some hM
    exact (L51 n0) x3 x4 x5 x6 x7 t_queueMany t_servedNow t_doneAt t_runs t_queueNow t_servedAt hM
  unfold Mo_pays at hM
  refine lv_aload_n hx hb dX9_pays_0 rfl (lv_at hl 0 rfl) ?_
  refine lv_iload_n hx hb dX9_pays_1 rfl (lv_at hl 1 rfl) ?_
  obtain ⟨y1, h2, hM⟩ := o_bd hM
  refine af_i (ws2 := (w_Mo_pays cI cJ cS q_t q_t_kindOf q_t_comes q_t_wants q_t_runs q_t_readKind q_t_readComes q_t_readWants q_t_queueNow q_t_servedAt q_t_comesWas q_t_readingOf q_t_readingAt q_t_sheetSize q_t_sheetLane q_t_sheet q_t_hands t_fault t_persons t_law t_bellSet t_readAt t_readLaw t_readMany t_queueMany t_servedNow t_doneAt t_readings t_whichMany t_whichOne t_whichTwo t_traceNow t_kindOf t_comes t_wants t_runs t_queueNow t_servedAt)) (va_runV (As := [.int p_p]) (rest := []) ⟨hx, hb, hml, hown, hts⟩ (c_Mo_noPerson l D cI cJ cS q_t q_t_kindOf q_t_comes q_t_wants q_t_runs q_t_readKind q_t_readComes q_t_readWants q_t_queueNow q_t_servedAt q_t_comesWas q_t_readingOf q_t_readingAt q_t_sheetSize q_t_sheetLane q_t_sheet q_t_hands t_fault t_persons t_law t_bellSet t_readAt t_readLaw t_readMany t_queueMany t_servedNow t_doneAt t_readings t_whichMany t_whichOne t_whichTwo t_traceNow p_p y1 h2 _) (cwV 1 hts gX9_pays_X9_noPerson rfl rfl rfl (by decide +kernel) ⟨(Nat.le_of_ble_eq_true rfl), (Nat.le_of_ble_eq_true rfl)⟩) (pre_V hK hP hD [0] rfl rfl rfl rfl) rfl rfl hl.1 rfl (lv_room (Nat.le_of_ble_eq_true rfl)) dX9_pays_2 ⟨Nat.zero_le _, Nat.zero_le _⟩) hP hD hS hA [0] [1, 2, 3, 4, 5, 6] [6, 0, 1, 2, 3, 4, 5] rfl rfl rfl (by decide) rfl rfl (fun H locs hP hD hS => ?_)
  refine lv_if_eq (tgt := 10) hx hb dX9_pays_5 (by decide) (fun c3 => ?_) (fun c3 => ?_)
  · have hM := (o_if hM).1 c3
    refine lv_iload_n hx hb dX9_pays_10 rfl (lv_at hl 2 rfl) ?_
    refine lv_i2l (v := p_what.toInt64) hx hb dX9_pays_11 rfl ?_
    refine lv_lconst (v := 0) hx hb dX9_pays_12 (by decide) ?_
    refine lv_lconst (v := 1) hx hb dX9_pays_13 (by decide) ?_
    obtain ⟨y4, h5, hM⟩ := o_bd hM
    refine af_i (ws2 := (w_Mo_pays cI cJ cS q_t q_t_kindOf q_t_comes q_t_wants q_t_runs q_t_readKind q_t_readComes q_t_readWants q_t_queueNow q_t_servedAt q_t_comesWas q_t_readingOf q_t_readingAt q_t_sheetSize q_t_sheetLane q_t_sheet q_t_hands t_fault t_persons t_law t_bellSet t_readAt t_readLaw t_readMany t_queueMany t_servedNow t_doneAt t_readings t_whichMany t_whichOne t_whichTwo t_traceNow t_kindOf t_comes t_wants t_runs t_queueNow t_servedAt)) (va_runS (As := [.long p_what.toInt64, .long 0, .long 1]) (rest := []) ⟨hx, hb, hml, hown, hts⟩ (c_Mo_in l D cI cJ cS p_what.toInt64 0 1 y4 h5 _) (va_cwS 3 hts gX9_pays_X9_in rfl rfl rfl (by decide +kernel) ⟨(Nat.le_of_ble_eq_true rfl), (Nat.le_of_ble_eq_true rfl)⟩) (pre_S hK hP hD [] rfl rfl) rfl rfl hl.1 rfl (lv_room (Nat.le_of_ble_eq_true rfl)) dX9_pays_14 ⟨Nat.zero_le _, Nat.zero_le _⟩) hP hD hS hA [] [0, 1, 2, 3, 4, 5, 6] [0, 1, 2, 3, 4, 5, 6] rfl rfl rfl (by decide) rfl rfl (fun H locs hP hD hS => ?_)
    refine lv_if_ne (tgt := 23) hx hb dX9_pays_17 (by decide) (fun c6 => ?_) (fun c6 => ?_)
    · have hM := (o_if hM).2 c6
      refine lv_aload_n hx hb dX9_pays_23 rfl (lv_at hl 0 rfl) ?_
      refine lv_iload_n hx hb dX9_pays_24 rfl (lv_at hl 1 rfl) ?_
      refine lv_aload_n hx hb dX9_pays_25 rfl (lv_at hl 0 rfl) ?_
      refine va_get (ci := 8) (v := .long t_bellSet) (C := RX9) (T := TX9) (N := 31) hx hb hts iX9 hown hK.1 hP 0 rfl rfl 7 (Nat.le_of_ble_eq_true rfl) k0 (fun _ h9 => h9) rfl dX9_pays_26 ?_
      obtain ⟨y7, h8, hM⟩ := o_bd hM
      refine af_i (ws2 := (w_Mo_pays cI cJ cS q_t q_t_kindOf q_t_comes q_t_wants q_t_runs q_t_readKind q_t_readComes q_t_readWants q_t_queueNow q_t_servedAt q_t_comesWas q_t_readingOf q_t_readingAt q_t_sheetSize q_t_sheetLane q_t_sheet q_t_hands t_fault t_persons t_law t_bellSet t_readAt t_readLaw t_readMany y7.2.1 y7.2.2.1 y7.2.2.2.1 t_readings t_whichMany t_whichOne t_whichTwo t_traceNow t_kindOf t_comes t_wants t_runs y7.2.2.2.2.1 y7.2.2.2.2.2)) (va_runV (As := [.int p_p, .long t_bellSet]) (rest := []) ⟨hx, hb, hml, hown, hts⟩ (c_Mo_servedBy l D cI cJ cS q_t q_t_kindOf q_t_comes q_t_wants q_t_runs q_t_readKind q_t_readComes q_t_readWants q_t_queueNow q_t_servedAt q_t_comesWas q_t_readingOf q_t_readingAt q_t_sheetSize q_t_sheetLane q_t_sheet q_t_hands t_fault t_persons t_law t_bellSet t_readAt t_readLaw t_readMany t_queueMany t_servedNow t_doneAt t_readings t_whichMany t_whichOne t_whichTwo t_traceNow t_kindOf t_comes t_wants t_runs t_queueNow t_servedAt p_p t_bellSet y7 h8 _) (cwV 2 hts gX9_pays_X9_servedBy rfl rfl rfl (by decide +kernel) ⟨(Nat.le_of_ble_eq_true rfl), (Nat.le_of_ble_eq_true rfl)⟩) (pre_V hK hP hD [0, 1, 2, 3, 4, 5, 6] rfl rfl rfl rfl) rfl rfl hl.1 rfl (lv_room (Nat.le_of_ble_eq_true rfl)) dX9_pays_29 ⟨Nat.zero_le _, Nat.zero_le _⟩) hP hD hS hA [0, 1, 2, 3, 4, 5, 6] [] [0, 1, 2, 3, 4, 5, 6] rfl rfl rfl (by decide) rfl rfl (fun H locs hP hD hS => ?_)
      refine lv_istore_n (lv' := [(3, .int y7.1), (0, .ref q_t), (1, .int p_p), (2, .int p_what)]) hx hb dX9_pays_32 rfl hl (Nat.le_of_ble_eq_true rfl) rfl (fun ls hl => ?_)
      refine lv_aload_n hx hb dX9_pays_33 rfl (lv_at hl 1 rfl) ?_
      refine va_get (ci := 8) (v := .ref q_t_runs) (C := RX9) (T := TX9) (N := 31) hx hb hts iX9 hown hK.1 hP 0 rfl rfl 6 (Nat.le_of_ble_eq_true rfl) k1 (fun _ h9 => h9) rfl dX9_pays_34 ?_
      refine lv_iload_n hx hb dX9_pays_37 rfl (lv_at hl 2 rfl) ?_
      obtain ⟨h9, hM⟩ := o_ck hM
      refine va_iald hx hb hK.1 hP 4 0 rfl rfl h9 dX9_pays_38 ?_
      refine lv_topi (fun y10 ey10 => ?_)
      have hM := o_lt hM y10 ey10
      refine lv_istore (lv' := [(4, .int y10), (3, .int y7.1), (0, .ref q_t), (1, .int p_p), (2, .int p_what)]) hx hb dX9_pays_39 hl (Nat.le_of_ble_eq_true rfl) rfl (fun ls hl => ?_)
      refine lv_iconst (v := 0) hx hb dX9_pays_41 (by decide) ?_
      refine lv_istore (lv' := [(5, .int 0), (4, .int y10), (3, .int y7.1), (0, .ref q_t), (1, .int p_p), (2, .int p_what)]) hx hb dX9_pays_42 hl (Nat.le_of_ble_eq_true rfl) rfl (fun ls hl => ?_)
      refine lv_bipush (v := (-9)) hx hb dX9_pays_44 (by decide) ?_
      refine lv_istore (lv' := [(6, .int (-9)), (5, .int 0), (4, .int y10), (3, .int y7.1), (0, .ref q_t), (1, .int p_p), (2, .int p_what)]) hx hb dX9_pays_46 hl (Nat.le_of_ble_eq_true rfl) rfl (fun ls hl => ?_)
      refine lv_iconst (v := 0) hx hb dX9_pays_48 (by decide) ?_
      refine lv_istore (lv' := [(7, .int 0), (6, .int (-9)), (5, .int 0), (4, .int y10), (3, .int y7.1), (0, .ref q_t), (1, .int p_p), (2, .int p_what)]) hx hb dX9_pays_49 hl (Nat.le_of_ble_eq_true rfl) rfl (fun ls hl => ?_)
      exact J51 y7.1 y10 0 (-9) 0 y7.2.1 y7.2.2.1 y7.2.2.2.1 t_runs y7.2.2.2.2.1 y7.2.2.2.2.2 hM _ _ hP hD hS _ (lv_sub hl [5, 6, 7, 4, 3, 2, 1, 0] rfl)
    · have hM := (o_if hM).1 c6
      refine lv_bipush (v := (-2)) hx hb dX9_pays_20 (by decide) ?_
      have hM := (Option.some.inj hM)
      subst hM
      exact rt_i hx hb hr hlocks hP hD hS dX9_pays_22
  · have hM := (o_if hM).2 c3
    refine lv_iconst (v := (-1)) hx hb dX9_pays_8 (by decide) ?_
    have hM := (Option.some.inj hM)
    subst hM
    exact rt_i hx hb hr hlocks hP hD hS dX9_pays_9
/-! ===== TurnQueueModel.reading ===== -/
abbrev w_Mo_reading (cI cJ cS : ClassId) (q_t : Nat) (q_t_kindOf : Nat) (q_t_comes : Nat) (q_t_wants : Nat) (q_t_runs : Nat) (q_t_readKind : Nat) (q_t_readComes : Nat) (q_t_readWants : Nat) (q_t_queueNow : Nat) (q_t_servedAt : Nat) (q_t_comesWas : Nat) (q_t_readingOf : Nat) (q_t_readingAt : Nat) (q_t_sheetSize : Nat) (q_t_sheetLane : Nat) (q_t_sheet : Nat) (q_t_hands : Nat) (t_fault : Int32) (t_persons : Int32) (t_law : Int32) (t_bellSet : Int64) (t_readAt : Int32) (t_readLaw : Int32) (t_readMany : Int32) (t_queueMany : Int32) (t_servedNow : Int32) (t_doneAt : Int32) (t_readings : Int32) (t_whichMany : Int32) (t_whichOne : Int32) (t_whichTwo : Int32) (t_traceNow : Int32) (t_readingOf : Nat → Int32) (t_readingAt : Nat → Int32) : va_W := [(q_t, .inr (8, [.int t_fault, .int t_persons, .int t_law, .ref q_t_kindOf, .ref q_t_comes, .ref q_t_wants, .ref q_t_runs, .long t_bellSet, .int t_readAt, .int t_readLaw, .int t_readMany, .ref q_t_readKind, .ref q_t_readComes, .ref q_t_readWants, .ref q_t_queueNow, .int t_queueMany, .int t_servedNow, .int t_doneAt, .ref q_t_servedAt, .ref q_t_comesWas, .int t_readings, .ref q_t_readingOf, .ref q_t_readingAt, .int t_whichMany, .int t_whichOne, .int t_whichTwo, .ref q_t_sheetSize, .ref q_t_sheetLane, .ref q_t_sheet, .ref q_t_hands, .int t_traceNow])), (q_t_readingOf, ar cI 8 t_readingOf), (q_t_readingAt, ar cI 8 t_readingAt)]
abbrev rm_Mo_reading : Room := { frames := 2, cells := 0, slots := 0, locals := 46 }
noncomputable def Mo_reading (p_p : Int32) (p_minute : Int32) (t_persons : Int32) (t_readings : Int32) (t_readingOf : Nat → Int32) (t_readingAt : Nat → Int32) : Option (Int32 × Int32 × (Nat → Int32) × (Nat → Int32)) :=
  (Mo_noPerson p_p t_persons).bind fun y1 =>
  if y1 = 0 then
    (Mo_in p_minute.toInt64 0 199).bind fun y4 =>
    if y4 = 0 then
      some ((-2), t_readings, t_readingOf, t_readingAt)
    else
      if t_readings = 8 then
        some ((-4), t_readings, t_readingOf, t_readingAt)
      else
        if ck t_readings 8 = true then
          if ck t_readings 8 = true then
            lt (t_readings + 1) fun y10 =>
            some (y10 - 1, y10, upd t_readingOf t_readings.toNatClampNeg p_p, upd t_readingAt t_readings.toNatClampNeg p_minute)
          else none
        else none
  else
    some ((-1), t_readings, t_readingOf, t_readingAt)
set_option maxRecDepth 100000 in
set_option maxHeartbeats 4000000 in
theorem c_Mo_reading (l : Launch) (D : va_G) (cI cJ cS : ClassId) (q_t q_t_kindOf q_t_comes q_t_wants q_t_runs q_t_readKind q_t_readComes q_t_readWants q_t_queueNow q_t_servedAt q_t_comesWas q_t_readingOf q_t_readingAt q_t_sheetSize q_t_sheetLane q_t_sheet q_t_hands : Nat) (t_fault : Int32) (t_persons : Int32) (t_law : Int32) (t_bellSet : Int64) (t_readAt : Int32) (t_readLaw : Int32) (t_readMany : Int32) (t_queueMany : Int32) (t_servedNow : Int32) (t_doneAt : Int32) (t_readings : Int32) (t_whichMany : Int32) (t_whichOne : Int32) (t_whichTwo : Int32) (t_traceNow : Int32) (t_readingOf : Nat → Int32) (t_readingAt : Nat → Int32) (p_p : Int32) (p_minute : Int32) (o : Int32 × Int32 × (Nat → Int32) × (Nat → Int32)) (hM : Mo_reading p_p p_minute t_persons t_readings t_readingOf t_readingAt = some o) : Ci l yX9_reading wsX9_reading rm_Mo_reading D cI cJ cS [.ref q_t, .int p_p, .int p_minute] (w_Mo_reading cI cJ cS q_t q_t_kindOf q_t_comes q_t_wants q_t_runs q_t_readKind q_t_readComes q_t_readWants q_t_queueNow q_t_servedAt q_t_comesWas q_t_readingOf q_t_readingAt q_t_sheetSize q_t_sheetLane q_t_sheet q_t_hands t_fault t_persons t_law t_bellSet t_readAt t_readLaw t_readMany t_queueMany t_servedNow t_doneAt t_readings t_whichMany t_whichOne t_whichTwo t_traceNow t_readingOf t_readingAt) (w_Mo_reading cI cJ cS q_t q_t_kindOf q_t_comes q_t_wants q_t_runs q_t_readKind q_t_readComes q_t_readWants q_t_queueNow q_t_servedAt q_t_comesWas q_t_readingOf q_t_readingAt q_t_sheetSize q_t_sheetLane q_t_sheet q_t_hands t_fault t_persons t_law t_bellSet t_readAt t_readLaw t_readMany t_queueMany t_servedNow t_doneAt o.2.1 t_whichMany t_whichOne t_whichTwo t_traceNow o.2.2.1 o.2.2.2) o.1 := by
  refine Ci.of (cc := cX9_reading) (maxL := 3) (ret := (some .int)) (by decide) rfl (Nat.le_of_ble_eq_true rfl) ?_
  intro p e s m args below meth c A ls hE
  obtain ⟨hx, hb, hr, hml, hown, hts, hlocks, hK, hA, hP, hD, hS, hl⟩ := hE
  have hown : s.vm.findClass RX9 = some m.cls := hown
  have hl : lv_has ls 3 [(0, .ref q_t), (1, .int p_p), (2, .int p_minute)] := hl
  have iX9 : ∀ w ∈ u_ws RX9 TX9 31, w ∈ wsX9_reading := by decide +kernel
  have k0 := hts (.constantLong RX9 187 (199)) (by decide +kernel)
  have k1 := hts (.fieldLink RX9 125 "TurnQueueModel" "readings" "I") (by decide +kernel)
  have k2 := hts (.fieldLink RX9 40 "TurnQueueModel" "readingOf" "[I") (by decide +kernel)
  have k3 := hts (.fieldLink RX9 43 "TurnQueueModel" "readingAt" "[I") (by decide +kernel)
  unfold Mo_reading at hM
  refine lv_aload_n hx hb dX9_reading_0 rfl (lv_at hl 0 rfl) ?_
  refine lv_iload_n hx hb dX9_reading_1 rfl (lv_at hl 1 rfl) ?_
  obtain ⟨y1, h2, hM⟩ := o_bd hM
  refine af_i (ws2 := (w_Mo_reading cI cJ cS q_t q_t_kindOf q_t_comes q_t_wants q_t_runs q_t_readKind q_t_readComes q_t_readWants q_t_queueNow q_t_servedAt q_t_comesWas q_t_readingOf q_t_readingAt q_t_sheetSize q_t_sheetLane q_t_sheet q_t_hands t_fault t_persons t_law t_bellSet t_readAt t_readLaw t_readMany t_queueMany t_servedNow t_doneAt t_readings t_whichMany t_whichOne t_whichTwo t_traceNow t_readingOf t_readingAt)) (va_runV (As := [.int p_p]) (rest := []) ⟨hx, hb, hml, hown, hts⟩ (c_Mo_noPerson l D cI cJ cS q_t q_t_kindOf q_t_comes q_t_wants q_t_runs q_t_readKind q_t_readComes q_t_readWants q_t_queueNow q_t_servedAt q_t_comesWas q_t_readingOf q_t_readingAt q_t_sheetSize q_t_sheetLane q_t_sheet q_t_hands t_fault t_persons t_law t_bellSet t_readAt t_readLaw t_readMany t_queueMany t_servedNow t_doneAt t_readings t_whichMany t_whichOne t_whichTwo t_traceNow p_p y1 h2 _) (cwV 1 hts gX9_reading_X9_noPerson rfl rfl rfl (by decide +kernel) ⟨(Nat.le_of_ble_eq_true rfl), (Nat.le_of_ble_eq_true rfl)⟩) (pre_V hK hP hD [0] rfl rfl rfl rfl) rfl rfl hl.1 rfl (lv_room (Nat.le_of_ble_eq_true rfl)) dX9_reading_2 ⟨Nat.zero_le _, Nat.zero_le _⟩) hP hD hS hA [0] [1, 2] [2, 0, 1] rfl rfl rfl (by decide) rfl rfl (fun H locs hP hD hS => ?_)
  refine lv_if_eq (tgt := 10) hx hb dX9_reading_5 (by decide) (fun c3 => ?_) (fun c3 => ?_)
  · have hM := (o_if hM).1 c3
    refine lv_iload_n hx hb dX9_reading_10 rfl (lv_at hl 2 rfl) ?_
    refine lv_i2l (v := p_minute.toInt64) hx hb dX9_reading_11 rfl ?_
    refine lv_lconst (v := 0) hx hb dX9_reading_12 (by decide) ?_
    refine lv_ldc2 (v := 199) hx hb hown k0 dX9_reading_13 ?_
    obtain ⟨y4, h5, hM⟩ := o_bd hM
    refine af_i (ws2 := (w_Mo_reading cI cJ cS q_t q_t_kindOf q_t_comes q_t_wants q_t_runs q_t_readKind q_t_readComes q_t_readWants q_t_queueNow q_t_servedAt q_t_comesWas q_t_readingOf q_t_readingAt q_t_sheetSize q_t_sheetLane q_t_sheet q_t_hands t_fault t_persons t_law t_bellSet t_readAt t_readLaw t_readMany t_queueMany t_servedNow t_doneAt t_readings t_whichMany t_whichOne t_whichTwo t_traceNow t_readingOf t_readingAt)) (va_runS (As := [.long p_minute.toInt64, .long 0, .long 199]) (rest := []) ⟨hx, hb, hml, hown, hts⟩ (c_Mo_in l D cI cJ cS p_minute.toInt64 0 199 y4 h5 _) (va_cwS 3 hts gX9_reading_X9_in rfl rfl rfl (by decide +kernel) ⟨(Nat.le_of_ble_eq_true rfl), (Nat.le_of_ble_eq_true rfl)⟩) (pre_S hK hP hD [] rfl rfl) rfl rfl hl.1 rfl (lv_room (Nat.le_of_ble_eq_true rfl)) dX9_reading_16 ⟨Nat.zero_le _, Nat.zero_le _⟩) hP hD hS hA [] [0, 1, 2] [0, 1, 2] rfl rfl rfl (by decide) rfl rfl (fun H locs hP hD hS => ?_)
    refine lv_if_ne (tgt := 25) hx hb dX9_reading_19 (by decide) (fun c6 => ?_) (fun c6 => ?_)
    · have hM := (o_if hM).2 c6
      refine lv_aload_n hx hb dX9_reading_25 rfl (lv_at hl 0 rfl) ?_
      refine va_get (ci := 8) (v := .int t_readings) (C := RX9) (T := TX9) (N := 31) hx hb hts iX9 hown hK.1 hP 0 rfl rfl 20 (Nat.le_of_ble_eq_true rfl) k1 (fun _ h9 => h9) rfl dX9_reading_26 ?_
      refine lv_bipush (v := 8) hx hb dX9_reading_29 (by decide) ?_
      refine lv_icmp_ne (tgt := 37) hx hb dX9_reading_31 (by decide) (fun c7 => ?_) (fun c7 => ?_)
      · have hM := (o_if hM).2 c7
        refine lv_aload_n hx hb dX9_reading_37 rfl (lv_at hl 0 rfl) ?_
        refine va_get (ci := 8) (v := .ref q_t_readingOf) (C := RX9) (T := TX9) (N := 31) hx hb hts iX9 hown hK.1 hP 0 rfl rfl 21 (Nat.le_of_ble_eq_true rfl) k2 (fun _ h9 => h9) rfl dX9_reading_38 ?_
        refine lv_aload_n hx hb dX9_reading_41 rfl (lv_at hl 0 rfl) ?_
        refine va_get (ci := 8) (v := .int t_readings) (C := RX9) (T := TX9) (N := 31) hx hb hts iX9 hown hK.1 hP 0 rfl rfl 20 (Nat.le_of_ble_eq_true rfl) k1 (fun _ h9 => h9) rfl dX9_reading_42 ?_
        refine lv_iload_n hx hb dX9_reading_45 rfl (lv_at hl 1 rfl) ?_
        obtain ⟨h8, hM⟩ := o_ck hM
        refine va_iast hx hb hK.1 hP hD hS 1 0 rfl rfl h8 dX9_reading_46 (fun H locs hP hD hS => ?_)
        have hP : va_P D vwCl (w_Mo_reading cI cJ cS q_t q_t_kindOf q_t_comes q_t_wants q_t_runs q_t_readKind q_t_readComes q_t_readWants q_t_queueNow q_t_servedAt q_t_comesWas q_t_readingOf q_t_readingAt q_t_sheetSize q_t_sheetLane q_t_sheet q_t_hands t_fault t_persons t_law t_bellSet t_readAt t_readLaw t_readMany t_queueMany t_servedNow t_doneAt t_readings t_whichMany t_whichOne t_whichTwo t_traceNow (upd t_readingOf t_readings.toNatClampNeg p_p) t_readingAt) H := hP
        have hD : va_D A (w_Mo_reading cI cJ cS q_t q_t_kindOf q_t_comes q_t_wants q_t_runs q_t_readKind q_t_readComes q_t_readWants q_t_queueNow q_t_servedAt q_t_comesWas q_t_readingOf q_t_readingAt q_t_sheetSize q_t_sheetLane q_t_sheet q_t_hands t_fault t_persons t_law t_bellSet t_readAt t_readLaw t_readMany t_queueMany t_servedNow t_doneAt t_readings t_whichMany t_whichOne t_whichTwo t_traceNow (upd t_readingOf t_readings.toNatClampNeg p_p) t_readingAt) := hD
        refine lv_aload_n hx hb dX9_reading_47 rfl (lv_at hl 0 rfl) ?_
        refine va_get (ci := 8) (v := .ref q_t_readingAt) (C := RX9) (T := TX9) (N := 31) hx hb hts iX9 hown hK.1 hP 0 rfl rfl 22 (Nat.le_of_ble_eq_true rfl) k3 (fun _ h9 => h9) rfl dX9_reading_48 ?_
        refine lv_aload_n hx hb dX9_reading_51 rfl (lv_at hl 0 rfl) ?_
        refine va_get (ci := 8) (v := .int t_readings) (C := RX9) (T := TX9) (N := 31) hx hb hts iX9 hown hK.1 hP 0 rfl rfl 20 (Nat.le_of_ble_eq_true rfl) k1 (fun _ h9 => h9) rfl dX9_reading_52 ?_
        refine lv_iload_n hx hb dX9_reading_55 rfl (lv_at hl 2 rfl) ?_
        obtain ⟨h9, hM⟩ := o_ck hM
        refine va_iast hx hb hK.1 hP hD hS 2 0 rfl rfl h9 dX9_reading_56 (fun H locs hP hD hS => ?_)
        have hP : va_P D vwCl (w_Mo_reading cI cJ cS q_t q_t_kindOf q_t_comes q_t_wants q_t_runs q_t_readKind q_t_readComes q_t_readWants q_t_queueNow q_t_servedAt q_t_comesWas q_t_readingOf q_t_readingAt q_t_sheetSize q_t_sheetLane q_t_sheet q_t_hands t_fault t_persons t_law t_bellSet t_readAt t_readLaw t_readMany t_queueMany t_servedNow t_doneAt t_readings t_whichMany t_whichOne t_whichTwo t_traceNow (upd t_readingOf t_readings.toNatClampNeg p_p) (upd t_readingAt t_readings.toNatClampNeg p_minute)) H := hP
        have hD : va_D A (w_Mo_reading cI cJ cS q_t q_t_kindOf q_t_comes q_t_wants q_t_runs q_t_readKind q_t_readComes q_t_readWants q_t_queueNow q_t_servedAt q_t_comesWas q_t_readingOf q_t_readingAt q_t_sheetSize q_t_sheetLane q_t_sheet q_t_hands t_fault t_persons t_law t_bellSet t_readAt t_readLaw t_readMany t_queueMany t_servedNow t_doneAt t_readings t_whichMany t_whichOne t_whichTwo t_traceNow (upd t_readingOf t_readings.toNatClampNeg p_p) (upd t_readingAt t_readings.toNatClampNeg p_minute)) := hD
        refine lv_aload_n hx hb dX9_reading_57 rfl (lv_at hl 0 rfl) ?_
        refine lv_dup hx hb dX9_reading_58 rfl ?_
        refine va_get (ci := 8) (v := .int t_readings) (C := RX9) (T := TX9) (N := 31) hx hb hts iX9 hown hK.1 hP 0 rfl rfl 20 (Nat.le_of_ble_eq_true rfl) k1 (fun _ h9 => h9) rfl dX9_reading_59 ?_
        refine lv_iconst (v := 1) hx hb dX9_reading_62 (by decide) ?_
        refine lv_iadd hx hb dX9_reading_63 ?_
        refine lv_topi (fun y10 ey10 => ?_)
        have hM := o_lt hM y10 ey10
        refine va_put (ci := 8) (v := .int y10) (ty := .int) (C := RX9) (T := TX9) (N := 31) hx hb hts iX9 tyX9 tyX9_ok nmX9 hown hK.1 hP hD hS 0 rfl rfl 20 (Nat.le_of_ble_eq_true rfl) k1 (fun _ h9 => h9) rfl (tyX9_ok 20 (Nat.le_of_ble_eq_true rfl)) rfl rfl (Nat.le_of_ble_eq_true rfl) dX9_reading_64 (fun H locs hP hD hS => ?_)
        have hP : va_P D vwCl (w_Mo_reading cI cJ cS q_t q_t_kindOf q_t_comes q_t_wants q_t_runs q_t_readKind q_t_readComes q_t_readWants q_t_queueNow q_t_servedAt q_t_comesWas q_t_readingOf q_t_readingAt q_t_sheetSize q_t_sheetLane q_t_sheet q_t_hands t_fault t_persons t_law t_bellSet t_readAt t_readLaw t_readMany t_queueMany t_servedNow t_doneAt y10 t_whichMany t_whichOne t_whichTwo t_traceNow (upd t_readingOf t_readings.toNatClampNeg p_p) (upd t_readingAt t_readings.toNatClampNeg p_minute)) H := hP
        have hD : va_D A (w_Mo_reading cI cJ cS q_t q_t_kindOf q_t_comes q_t_wants q_t_runs q_t_readKind q_t_readComes q_t_readWants q_t_queueNow q_t_servedAt q_t_comesWas q_t_readingOf q_t_readingAt q_t_sheetSize q_t_sheetLane q_t_sheet q_t_hands t_fault t_persons t_law t_bellSet t_readAt t_readLaw t_readMany t_queueMany t_servedNow t_doneAt y10 t_whichMany t_whichOne t_whichTwo t_traceNow (upd t_readingOf t_readings.toNatClampNeg p_p) (upd t_readingAt t_readings.toNatClampNeg p_minute)) := hD
        refine lv_aload_n hx hb dX9_reading_67 rfl (lv_at hl 0 rfl) ?_
        refine va_get (ci := 8) (v := .int y10) (C := RX9) (T := TX9) (N := 31) hx hb hts iX9 hown hK.1 hP 0 rfl rfl 20 (Nat.le_of_ble_eq_true rfl) k1 (fun _ h9 => h9) rfl dX9_reading_68 ?_
        refine lv_iconst (v := 1) hx hb dX9_reading_71 (by decide) ?_
        refine lv_isub hx hb dX9_reading_72 ?_
        have hM := (Option.some.inj hM)
        subst hM
        exact rt_i hx hb hr hlocks hP hD hS dX9_reading_73
      · have hM := (o_if hM).1 c7
        refine lv_bipush (v := (-4)) hx hb dX9_reading_34 (by decide) ?_
        have hM := (Option.some.inj hM)
        subst hM
        exact rt_i hx hb hr hlocks hP hD hS dX9_reading_36
    · have hM := (o_if hM).1 c6
      refine lv_bipush (v := (-2)) hx hb dX9_reading_22 (by decide) ?_
      have hM := (Option.some.inj hM)
      subst hM
      exact rt_i hx hb hr hlocks hP hD hS dX9_reading_24
  · have hM := (o_if hM).2 c3
    refine lv_iconst (v := (-1)) hx hb dX9_reading_8 (by decide) ?_
    have hM := (Option.some.inj hM)
    subst hM
    exact rt_i hx hb hr hlocks hP hD hS dX9_reading_9
/-! ===== TurnQueueModel.back ===== -/
abbrev w_Mo_back (cI cJ cS : ClassId) (q_t : Nat) (q_t_kindOf : Nat) (q_t_comes : Nat) (q_t_wants : Nat) (q_t_runs : Nat) (q_t_readKind : Nat) (q_t_readComes : Nat) (q_t_readWants : Nat) (q_t_queueNow : Nat) (q_t_servedAt : Nat) (q_t_comesWas : Nat) (q_t_readingOf : Nat) (q_t_readingAt : Nat) (q_t_sheetSize : Nat) (q_t_sheetLane : Nat) (q_t_sheet : Nat) (q_t_hands : Nat) (t_fault : Int32) (t_persons : Int32) (t_law : Int32) (t_bellSet : Int64) (t_readAt : Int32) (t_readLaw : Int32) (t_readMany : Int32) (t_queueMany : Int32) (t_servedNow : Int32) (t_doneAt : Int32) (t_readings : Int32) (t_whichMany : Int32) (t_whichOne : Int32) (t_whichTwo : Int32) (t_traceNow : Int32) : va_W := [(q_t, .inr (8, [.int t_fault, .int t_persons, .int t_law, .ref q_t_kindOf, .ref q_t_comes, .ref q_t_wants, .ref q_t_runs, .long t_bellSet, .int t_readAt, .int t_readLaw, .int t_readMany, .ref q_t_readKind, .ref q_t_readComes, .ref q_t_readWants, .ref q_t_queueNow, .int t_queueMany, .int t_servedNow, .int t_doneAt, .ref q_t_servedAt, .ref q_t_comesWas, .int t_readings, .ref q_t_readingOf, .ref q_t_readingAt, .int t_whichMany, .int t_whichOne, .int t_whichTwo, .ref q_t_sheetSize, .ref q_t_sheetLane, .ref q_t_sheet, .ref q_t_hands, .int t_traceNow]))]
abbrev rm_Mo_back : Room := { frames := 1, cells := 0, slots := 0, locals := 25 }
noncomputable def Mo_back (p_k : Int32) (t_readings : Int32) : Option (Int32 × Int32) :=
  (Mo_in p_k.toInt64 0 t_readings.toInt64).bind fun y1 =>
  if y1 = 0 then
    some ((-2), t_readings)
  else
    lt (t_readings - p_k) fun y4 =>
    some (y4, y4)
set_option maxRecDepth 100000 in
set_option maxHeartbeats 4000000 in
theorem c_Mo_back (l : Launch) (D : va_G) (cI cJ cS : ClassId) (q_t q_t_kindOf q_t_comes q_t_wants q_t_runs q_t_readKind q_t_readComes q_t_readWants q_t_queueNow q_t_servedAt q_t_comesWas q_t_readingOf q_t_readingAt q_t_sheetSize q_t_sheetLane q_t_sheet q_t_hands : Nat) (t_fault : Int32) (t_persons : Int32) (t_law : Int32) (t_bellSet : Int64) (t_readAt : Int32) (t_readLaw : Int32) (t_readMany : Int32) (t_queueMany : Int32) (t_servedNow : Int32) (t_doneAt : Int32) (t_readings : Int32) (t_whichMany : Int32) (t_whichOne : Int32) (t_whichTwo : Int32) (t_traceNow : Int32) (p_k : Int32) (o : Int32 × Int32) (hM : Mo_back p_k t_readings = some o) : Ci l yX9_back wsX9_back rm_Mo_back D cI cJ cS [.ref q_t, .int p_k] (w_Mo_back cI cJ cS q_t q_t_kindOf q_t_comes q_t_wants q_t_runs q_t_readKind q_t_readComes q_t_readWants q_t_queueNow q_t_servedAt q_t_comesWas q_t_readingOf q_t_readingAt q_t_sheetSize q_t_sheetLane q_t_sheet q_t_hands t_fault t_persons t_law t_bellSet t_readAt t_readLaw t_readMany t_queueMany t_servedNow t_doneAt t_readings t_whichMany t_whichOne t_whichTwo t_traceNow) (w_Mo_back cI cJ cS q_t q_t_kindOf q_t_comes q_t_wants q_t_runs q_t_readKind q_t_readComes q_t_readWants q_t_queueNow q_t_servedAt q_t_comesWas q_t_readingOf q_t_readingAt q_t_sheetSize q_t_sheetLane q_t_sheet q_t_hands t_fault t_persons t_law t_bellSet t_readAt t_readLaw t_readMany t_queueMany t_servedNow t_doneAt o.2 t_whichMany t_whichOne t_whichTwo t_traceNow) o.1 := by
  refine Ci.of (cc := cX9_back) (maxL := 2) (ret := (some .int)) (by decide) rfl (Nat.le_of_ble_eq_true rfl) ?_
  intro p e s m args below meth c A ls hE
  obtain ⟨hx, hb, hr, hml, hown, hts, hlocks, hK, hA, hP, hD, hS, hl⟩ := hE
  have hown : s.vm.findClass RX9 = some m.cls := hown
  have hl : lv_has ls 2 [(0, .ref q_t), (1, .int p_k)] := hl
  have iX9 : ∀ w ∈ u_ws RX9 TX9 31, w ∈ wsX9_back := by decide +kernel
  have k0 := hts (.fieldLink RX9 125 "TurnQueueModel" "readings" "I") (by decide +kernel)
  unfold Mo_back at hM
  refine lv_iload_n hx hb dX9_back_0 rfl (lv_at hl 1 rfl) ?_
  refine lv_i2l (v := p_k.toInt64) hx hb dX9_back_1 rfl ?_
  refine lv_lconst (v := 0) hx hb dX9_back_2 (by decide) ?_
  refine lv_aload_n hx hb dX9_back_3 rfl (lv_at hl 0 rfl) ?_
  refine va_get (ci := 8) (v := .int t_readings) (C := RX9) (T := TX9) (N := 31) hx hb hts iX9 hown hK.1 hP 0 rfl rfl 20 (Nat.le_of_ble_eq_true rfl) k0 (fun _ h9 => h9) rfl dX9_back_4 ?_
  refine lv_i2l (v := t_readings.toInt64) hx hb dX9_back_7 rfl ?_
  obtain ⟨y1, h2, hM⟩ := o_bd hM
  refine af_i (ws2 := (w_Mo_back cI cJ cS q_t q_t_kindOf q_t_comes q_t_wants q_t_runs q_t_readKind q_t_readComes q_t_readWants q_t_queueNow q_t_servedAt q_t_comesWas q_t_readingOf q_t_readingAt q_t_sheetSize q_t_sheetLane q_t_sheet q_t_hands t_fault t_persons t_law t_bellSet t_readAt t_readLaw t_readMany t_queueMany t_servedNow t_doneAt t_readings t_whichMany t_whichOne t_whichTwo t_traceNow)) (va_runS (As := [.long p_k.toInt64, .long 0, .long t_readings.toInt64]) (rest := []) ⟨hx, hb, hml, hown, hts⟩ (c_Mo_in l D cI cJ cS p_k.toInt64 0 t_readings.toInt64 y1 h2 _) (va_cwS 3 hts gX9_back_X9_in rfl rfl rfl (by decide +kernel) ⟨(Nat.le_of_ble_eq_true rfl), (Nat.le_of_ble_eq_true rfl)⟩) (pre_S hK hP hD [] rfl rfl) rfl rfl hl.1 rfl (lv_room (Nat.le_of_ble_eq_true rfl)) dX9_back_8 ⟨Nat.zero_le _, Nat.zero_le _⟩) hP hD hS hA [] [0] [0] rfl rfl rfl (by decide) rfl rfl (fun H locs hP hD hS => ?_)
  refine lv_if_ne (tgt := 17) hx hb dX9_back_11 (by decide) (fun c3 => ?_) (fun c3 => ?_)
  · have hM := (o_if hM).2 c3
    refine lv_aload_n hx hb dX9_back_17 rfl (lv_at hl 0 rfl) ?_
    refine lv_dup hx hb dX9_back_18 rfl ?_
    refine va_get (ci := 8) (v := .int t_readings) (C := RX9) (T := TX9) (N := 31) hx hb hts iX9 hown hK.1 hP 0 rfl rfl 20 (Nat.le_of_ble_eq_true rfl) k0 (fun _ h9 => h9) rfl dX9_back_19 ?_
    refine lv_iload_n hx hb dX9_back_22 rfl (lv_at hl 1 rfl) ?_
    refine lv_isub hx hb dX9_back_23 ?_
    refine lv_topi (fun y4 ey4 => ?_)
    have hM := o_lt hM y4 ey4
    refine va_put (ci := 8) (v := .int y4) (ty := .int) (C := RX9) (T := TX9) (N := 31) hx hb hts iX9 tyX9 tyX9_ok nmX9 hown hK.1 hP hD hS 0 rfl rfl 20 (Nat.le_of_ble_eq_true rfl) k0 (fun _ h9 => h9) rfl (tyX9_ok 20 (Nat.le_of_ble_eq_true rfl)) rfl rfl (Nat.le_of_ble_eq_true rfl) dX9_back_24 (fun H locs hP hD hS => ?_)
    have hP : va_P D vwCl (w_Mo_back cI cJ cS q_t q_t_kindOf q_t_comes q_t_wants q_t_runs q_t_readKind q_t_readComes q_t_readWants q_t_queueNow q_t_servedAt q_t_comesWas q_t_readingOf q_t_readingAt q_t_sheetSize q_t_sheetLane q_t_sheet q_t_hands t_fault t_persons t_law t_bellSet t_readAt t_readLaw t_readMany t_queueMany t_servedNow t_doneAt y4 t_whichMany t_whichOne t_whichTwo t_traceNow) H := hP
    have hD : va_D A (w_Mo_back cI cJ cS q_t q_t_kindOf q_t_comes q_t_wants q_t_runs q_t_readKind q_t_readComes q_t_readWants q_t_queueNow q_t_servedAt q_t_comesWas q_t_readingOf q_t_readingAt q_t_sheetSize q_t_sheetLane q_t_sheet q_t_hands t_fault t_persons t_law t_bellSet t_readAt t_readLaw t_readMany t_queueMany t_servedNow t_doneAt y4 t_whichMany t_whichOne t_whichTwo t_traceNow) := hD
    refine lv_aload_n hx hb dX9_back_27 rfl (lv_at hl 0 rfl) ?_
    refine va_get (ci := 8) (v := .int y4) (C := RX9) (T := TX9) (N := 31) hx hb hts iX9 hown hK.1 hP 0 rfl rfl 20 (Nat.le_of_ble_eq_true rfl) k0 (fun _ h9 => h9) rfl dX9_back_28 ?_
    have hM := (Option.some.inj hM)
    subst hM
    exact rt_i hx hb hr hlocks hP hD hS dX9_back_31
  · have hM := (o_if hM).1 c3
    refine lv_bipush (v := (-2)) hx hb dX9_back_14 (by decide) ?_
    have hM := (Option.some.inj hM)
    subst hM
    exact rt_i hx hb hr hlocks hP hD hS dX9_back_16
/-! ===== TurnQueueModel.areSo ===== -/
abbrev w_Mo_areSo (cI cJ cS : ClassId) (q_t : Nat) (q_t_kindOf : Nat) (q_t_comes : Nat) (q_t_wants : Nat) (q_t_runs : Nat) (q_t_readKind : Nat) (q_t_readComes : Nat) (q_t_readWants : Nat) (q_t_queueNow : Nat) (q_t_servedAt : Nat) (q_t_comesWas : Nat) (q_t_readingOf : Nat) (q_t_readingAt : Nat) (q_t_sheetSize : Nat) (q_t_sheetLane : Nat) (q_t_sheet : Nat) (q_t_hands : Nat) (t_fault : Int32) (t_persons : Int32) (t_law : Int32) (t_bellSet : Int64) (t_readAt : Int32) (t_readLaw : Int32) (t_readMany : Int32) (t_queueMany : Int32) (t_servedNow : Int32) (t_doneAt : Int32) (t_readings : Int32) (t_whichMany : Int32) (t_whichOne : Int32) (t_whichTwo : Int32) (t_traceNow : Int32) (t_kindOf : Nat → Int32) (t_comes : Nat → Int32) (t_wants : Nat → Int32) (t_runs : Nat → Int32) (t_queueNow : Nat → Int32) (t_servedAt : Nat → Int32) (t_readingOf : Nat → Int32) (t_readingAt : Nat → Int32) : va_W := [(q_t, .inr (8, [.int t_fault, .int t_persons, .int t_law, .ref q_t_kindOf, .ref q_t_comes, .ref q_t_wants, .ref q_t_runs, .long t_bellSet, .int t_readAt, .int t_readLaw, .int t_readMany, .ref q_t_readKind, .ref q_t_readComes, .ref q_t_readWants, .ref q_t_queueNow, .int t_queueMany, .int t_servedNow, .int t_doneAt, .ref q_t_servedAt, .ref q_t_comesWas, .int t_readings, .ref q_t_readingOf, .ref q_t_readingAt, .int t_whichMany, .int t_whichOne, .int t_whichTwo, .ref q_t_sheetSize, .ref q_t_sheetLane, .ref q_t_sheet, .ref q_t_hands, .int t_traceNow])), (q_t_kindOf, ar cI 7 t_kindOf), (q_t_comes, ar cI 7 t_comes), (q_t_wants, ar cI 7 t_wants), (q_t_runs, ar cI 7 t_runs), (q_t_queueNow, ar cI 7 t_queueNow), (q_t_servedAt, ar cI 7 t_servedAt), (q_t_readingOf, ar cI 8 t_readingOf), (q_t_readingAt, ar cI 8 t_readingAt)]
abbrev rm_Mo_areSo : Room := { frames := 4, cells := 0, slots := 0, locals := 94 }
noncomputable def Mo_areSo_b14 (p_set : Int64) (t_persons : Int32) (t_law : Int32) (t_readings : Int32) (t_kindOf : Nat → Int32) (t_comes : Nat → Int32) (t_wants : Nat → Int32) (t_runs : Nat → Int32) (t_readingOf : Nat → Int32) (t_readingAt : Nat → Int32) (x3 : Int32) (x4 : Int32) (t_queueMany : Int32) (t_servedNow : Int32) (t_doneAt : Int32) (t_queueNow : Nat → Int32) (t_servedAt : Nat → Int32) : Option ((Int32 × Int32 × Int32 × Int32 × Int32 × (Nat → Int32) × (Nat → Int32)) ⊕ (Int32 × Int32 × Int32 × Int32 × (Nat → Int32) × (Nat → Int32))) :=
  if t_readings ≤ x4 then
    if x3 &&& 1 = x3 then
      some (.inr (x3, t_queueMany, t_servedNow, t_doneAt, t_queueNow, t_servedAt))
    else none
  else
    if x3 = 0 then
      lt (x4 + 1) fun y8 =>
      some (.inl (0, y8, t_queueMany, t_servedNow, t_doneAt, t_queueNow, t_servedAt))
    else
      if ck x4 8 = true then
        if ck (t_readingOf x4.toNatClampNeg) 7 = true then
          if ck x4 8 = true then
            if (t_servedAt (t_readingOf x4.toNatClampNeg).toNatClampNeg) = (t_readingAt x4.toNatClampNeg) then
              lt (x4 + 1) fun y14 =>
              some (.inl (1, y14, t_queueMany, t_servedNow, t_doneAt, t_queueNow, t_servedAt))
            else
              lt (x4 + 1) fun y13 =>
              some (.inl (0, y13, t_queueMany, t_servedNow, t_doneAt, t_queueNow, t_servedAt))
          else none
        else none
      else none
noncomputable def Mo_areSo_s14 (p_set : Int64) (t_persons : Int32) (t_law : Int32) (t_readings : Int32) (t_kindOf : Nat → Int32) (t_comes : Nat → Int32) (t_wants : Nat → Int32) (t_runs : Nat → Int32) (t_readingOf : Nat → Int32) (t_readingAt : Nat → Int32) : (Int32 × Int32 × Int32 × Int32 × Int32 × (Nat → Int32) × (Nat → Int32)) → Option ((Int32 × Int32 × Int32 × Int32 × Int32 × (Nat → Int32) × (Nat → Int32)) ⊕ (Int32 × Int32 × Int32 × Int32 × (Nat → Int32) × (Nat → Int32))) := fun x => Mo_areSo_b14 p_set t_persons t_law t_readings t_kindOf t_comes t_wants t_runs t_readingOf t_readingAt x.1 x.2.1 x.2.2.1 x.2.2.2.1 x.2.2.2.2.1 x.2.2.2.2.2.1 x.2.2.2.2.2.2
noncomputable def Mo_areSo_l14 (p_set : Int64) (t_persons : Int32) (t_law : Int32) (t_readings : Int32) (t_kindOf : Nat → Int32) (t_comes : Nat → Int32) (t_wants : Nat → Int32) (t_runs : Nat → Int32) (t_readingOf : Nat → Int32) (t_readingAt : Nat → Int32) (x3 : Int32) (x4 : Int32) (t_queueMany : Int32) (t_servedNow : Int32) (t_doneAt : Int32) (t_queueNow : Nat → Int32) (t_servedAt : Nat → Int32) : Option (Int32 × Int32 × Int32 × Int32 × (Nat → Int32) × (Nat → Int32)) := fin (Mo_areSo_s14 p_set t_persons t_law t_readings t_kindOf t_comes t_wants t_runs t_readingOf t_readingAt) (x3, x4, t_queueMany, t_servedNow, t_doneAt, t_queueNow, t_servedAt)
noncomputable def Mo_areSo (p_set : Int64) (t_persons : Int32) (t_law : Int32) (t_readings : Int32) (t_kindOf : Nat → Int32) (t_comes : Nat → Int32) (t_wants : Nat → Int32) (t_runs : Nat → Int32) (t_readingOf : Nat → Int32) (t_readingAt : Nat → Int32) (t_queueMany : Int32) (t_servedNow : Int32) (t_doneAt : Int32) (t_queueNow : Nat → Int32) (t_servedAt : Nat → Int32) : Option (Int32 × Int32 × Int32 × Int32 × (Nat → Int32) × (Nat → Int32)) :=
  (Mo_all t_persons).bind fun y1 =>
  (Mo_goDay y1 p_set t_persons t_law t_kindOf t_comes t_wants t_runs t_queueMany t_servedNow t_doneAt t_queueNow t_servedAt).bind fun y3 =>
  Mo_areSo_l14 p_set t_persons t_law t_readings t_kindOf t_comes t_wants t_runs t_readingOf t_readingAt 1 0 y3.1 y3.2.1 y3.2.2.1 y3.2.2.2.1 y3.2.2.2.2
theorem Mo_areSo_l14_eq (p_set : Int64) (t_persons : Int32) (t_law : Int32) (t_readings : Int32) (t_kindOf : Nat → Int32) (t_comes : Nat → Int32) (t_wants : Nat → Int32) (t_runs : Nat → Int32) (t_readingOf : Nat → Int32) (t_readingAt : Nat → Int32) (x3 : Int32) (x4 : Int32) (t_queueMany : Int32) (t_servedNow : Int32) (t_doneAt : Int32) (t_queueNow : Nat → Int32) (t_servedAt : Nat → Int32) : Mo_areSo_l14 p_set t_persons t_law t_readings t_kindOf t_comes t_wants t_runs t_readingOf t_readingAt x3 x4 t_queueMany t_servedNow t_doneAt t_queueNow t_servedAt = (Mo_areSo_b14 p_set t_persons t_law t_readings t_kindOf t_comes t_wants t_runs t_readingOf t_readingAt x3 x4 t_queueMany t_servedNow t_doneAt t_queueNow t_servedAt).bind (sg (fin (Mo_areSo_s14 p_set t_persons t_law t_readings t_kindOf t_comes t_wants t_runs t_readingOf t_readingAt))) := by
  unfold Mo_areSo_l14
  exact fin_eq _ _
theorem Mo_areSo_l14_fd (p_set : Int64) (t_persons : Int32) (t_law : Int32) (t_readings : Int32) (t_kindOf : Nat → Int32) (t_comes : Nat → Int32) (t_wants : Nat → Int32) (t_runs : Nat → Int32) (t_readingOf : Nat → Int32) (t_readingAt : Nat → Int32) (x3 : Int32) (x4 : Int32) (t_queueMany : Int32) (t_servedNow : Int32) (t_doneAt : Int32) (t_queueNow : Nat → Int32) (t_servedAt : Nat → Int32) : fin (Mo_areSo_s14 p_set t_persons t_law t_readings t_kindOf t_comes t_wants t_runs t_readingOf t_readingAt) (x3, x4, t_queueMany, t_servedNow, t_doneAt, t_queueNow, t_servedAt) = Mo_areSo_l14 p_set t_persons t_law t_readings t_kindOf t_comes t_wants t_runs t_readingOf t_readingAt x3 x4 t_queueMany t_servedNow t_doneAt t_queueNow t_servedAt := rfl
set_option maxRecDepth 100000 in
set_option maxHeartbeats 4000000 in
theorem c_Mo_areSo (l : Launch) (D : va_G) (cI cJ cS : ClassId) (q_t q_t_kindOf q_t_comes q_t_wants q_t_runs q_t_readKind q_t_readComes q_t_readWants q_t_queueNow q_t_servedAt q_t_comesWas q_t_readingOf q_t_readingAt q_t_sheetSize q_t_sheetLane q_t_sheet q_t_hands : Nat) (t_fault : Int32) (t_persons : Int32) (t_law : Int32) (t_bellSet : Int64) (t_readAt : Int32) (t_readLaw : Int32) (t_readMany : Int32) (t_queueMany : Int32) (t_servedNow : Int32) (t_doneAt : Int32) (t_readings : Int32) (t_whichMany : Int32) (t_whichOne : Int32) (t_whichTwo : Int32) (t_traceNow : Int32) (t_kindOf : Nat → Int32) (t_comes : Nat → Int32) (t_wants : Nat → Int32) (t_runs : Nat → Int32) (t_queueNow : Nat → Int32) (t_servedAt : Nat → Int32) (t_readingOf : Nat → Int32) (t_readingAt : Nat → Int32) (p_set : Int64) (o : Int32 × Int32 × Int32 × Int32 × (Nat → Int32) × (Nat → Int32)) (hM : Mo_areSo p_set t_persons t_law t_readings t_kindOf t_comes t_wants t_runs t_readingOf t_readingAt t_queueMany t_servedNow t_doneAt t_queueNow t_servedAt = some o) : Ci l yX9_areSo wsX9_areSo rm_Mo_areSo D cI cJ cS [.ref q_t, .long p_set] (w_Mo_areSo cI cJ cS q_t q_t_kindOf q_t_comes q_t_wants q_t_runs q_t_readKind q_t_readComes q_t_readWants q_t_queueNow q_t_servedAt q_t_comesWas q_t_readingOf q_t_readingAt q_t_sheetSize q_t_sheetLane q_t_sheet q_t_hands t_fault t_persons t_law t_bellSet t_readAt t_readLaw t_readMany t_queueMany t_servedNow t_doneAt t_readings t_whichMany t_whichOne t_whichTwo t_traceNow t_kindOf t_comes t_wants t_runs t_queueNow t_servedAt t_readingOf t_readingAt) (w_Mo_areSo cI cJ cS q_t q_t_kindOf q_t_comes q_t_wants q_t_runs q_t_readKind q_t_readComes q_t_readWants q_t_queueNow q_t_servedAt q_t_comesWas q_t_readingOf q_t_readingAt q_t_sheetSize q_t_sheetLane q_t_sheet q_t_hands t_fault t_persons t_law t_bellSet t_readAt t_readLaw t_readMany o.2.1 o.2.2.1 o.2.2.2.1 t_readings t_whichMany t_whichOne t_whichTwo t_traceNow t_kindOf t_comes t_wants t_runs o.2.2.2.2.1 o.2.2.2.2.2 t_readingOf t_readingAt) o.1 := by
  refine Ci.of (cc := cX9_areSo) (maxL := 5) (ret := (some .boolean)) (by decide) rfl (Nat.le_of_ble_eq_true rfl) ?_
  intro p e s m args below meth c A ls hE
  obtain ⟨hx, hb, hr, hml, hown, hts, hlocks, hK, hA, hP, hD, hS, hl⟩ := hE
  have hown : s.vm.findClass RX9 = some m.cls := hown
  have hl : lv_has ls 5 [(0, .ref q_t), (1, .long p_set)] := hl
  have iX9 : ∀ w ∈ u_ws RX9 TX9 31, w ∈ wsX9_areSo := by decide +kernel
  have k0 := hts (.fieldLink RX9 125 "TurnQueueModel" "readings" "I") (by decide +kernel)
  have k1 := hts (.fieldLink RX9 34 "TurnQueueModel" "servedAt" "[I") (by decide +kernel)
  have k2 := hts (.fieldLink RX9 40 "TurnQueueModel" "readingOf" "[I") (by decide +kernel)
  have k3 := hts (.fieldLink RX9 43 "TurnQueueModel" "readingAt" "[I") (by decide +kernel)
  have L14 : ∀ n : Nat, (∀ (x3 : Int32) (x4 : Int32) (t_queueMany : Int32) (t_servedNow : Int32) (t_doneAt : Int32) (t_queueNow : Nat → Int32) (t_servedAt : Nat → Int32), itr (Mo_areSo_s14 p_set t_persons t_law t_readings t_kindOf t_comes t_wants t_runs t_readingOf t_readingAt) n (x3, x4, t_queueMany, t_servedNow, t_doneAt, t_queueNow, t_servedAt) = some o → ∀ (H : Heap) (locs : List Loc), va_P D vwCl (w_Mo_areSo cI cJ cS q_t q_t_kindOf q_t_comes q_t_wants q_t_runs q_t_readKind q_t_readComes q_t_readWants q_t_queueNow q_t_servedAt q_t_comesWas q_t_readingOf q_t_readingAt q_t_sheetSize q_t_sheetLane q_t_sheet q_t_hands t_fault t_persons t_law t_bellSet t_readAt t_readLaw t_readMany t_queueMany t_servedNow t_doneAt t_readings t_whichMany t_whichOne t_whichTwo t_traceNow t_kindOf t_comes t_wants t_runs t_queueNow t_servedAt t_readingOf t_readingAt) H → va_D A (w_Mo_areSo cI cJ cS q_t q_t_kindOf q_t_comes q_t_wants q_t_runs q_t_readKind q_t_readComes q_t_readWants q_t_queueNow q_t_servedAt q_t_comesWas q_t_readingOf q_t_readingAt q_t_sheetSize q_t_sheetLane q_t_sheet q_t_hands t_fault t_persons t_law t_bellSet t_readAt t_readLaw t_readMany t_queueMany t_servedNow t_doneAt t_readings t_whichMany t_whichOne t_whichTwo t_traceNow t_kindOf t_comes t_wants t_runs t_queueNow t_servedAt t_readingOf t_readingAt) → va_S A s.heap H locs → ∀ ls : Array Slot, lv_has ls 5 [(0, .ref q_t), (3, .int x3), (4, .int x4)] → W p l e (headSpec wsX9_areSo rm_Mo_areSo).room s m args below meth c H locs 0 0 (MQ below (CQi D (w_Mo_areSo cI cJ cS q_t q_t_kindOf q_t_comes q_t_wants q_t_runs q_t_readKind q_t_readComes q_t_readWants q_t_queueNow q_t_servedAt q_t_comesWas q_t_readingOf q_t_readingAt q_t_sheetSize q_t_sheetLane q_t_sheet q_t_hands t_fault t_persons t_law t_bellSet t_readAt t_readLaw t_readMany o.2.1 o.2.2.1 o.2.2.2.1 t_readings t_whichMany t_whichOne t_whichTwo t_traceNow t_kindOf t_comes t_wants t_runs o.2.2.2.2.1 o.2.2.2.2.2 t_readingOf t_readingAt) A o.1) args s 0 0 A) (F0 m 14 ls [])) := by
    intro n
    induction n with
    | zero => exact fun _ _ _ _ _ _ _ hM => (itr_0 hM).elim
    | succ n ih =>
      intro x3 x4 t_queueMany t_servedNow t_doneAt t_queueNow t_servedAt hM H locs hP hD hS ls hl
      have hM : (Mo_areSo_b14 p_set t_persons t_law t_readings t_kindOf t_comes t_wants t_runs t_readingOf t_readingAt x3 x4 t_queueMany t_servedNow t_doneAt t_queueNow t_servedAt).bind (sg (itr (Mo_areSo_s14 p_set t_persons t_law t_readings t_kindOf t_comes t_wants t_runs t_readingOf t_readingAt) n)) = some o := hM
      unfold Mo_areSo_b14 at hM
      refine lv_iload hx hb dX9_areSo_14 (lv_at hl 2 rfl) ?_
      refine lv_aload_n hx hb dX9_areSo_16 rfl (lv_at hl 0 rfl) ?_
      refine va_get (ci := 8) (v := .int t_readings) (C := RX9) (T := TX9) (N := 31) hx hb hts iX9 hown hK.1 hP 0 rfl rfl 20 (Nat.le_of_ble_eq_true rfl) k0 (fun _ h9 => h9) rfl dX9_areSo_17 ?_
      refine lv_icmp_ge (tgt := 61) hx hb dX9_areSo_20 (by decide) (fun c5 => ?_) (fun c5 => ?_)
      · have hM := (s_if hM).1 c5
        refine lv_iload_n hx hb dX9_areSo_61 rfl (lv_at hl 1 rfl) ?_
        obtain ⟨h6, hM⟩ := s_gd hM
        have hM := (Option.some.inj (s_rt hM))
        subst hM
        exact rt_z hx hb hr hlocks hP hD hS (nz h6) dX9_areSo_62
      · have hM := (s_if hM).2 c5
        refine lv_iload_n hx hb dX9_areSo_23 rfl (lv_at hl 1 rfl) ?_
        refine lv_if_eq (tgt := 53) hx hb dX9_areSo_24 (by decide) (fun c7 => ?_) (fun c7 => ?_)
        · have hM := (s_if hM).1 c7
          refine lv_iconst (v := 0) hx hb dX9_areSo_53 (by decide) ?_
          refine lv_istore_n (lv' := [(3, .int 0), (0, .ref q_t), (4, .int x4)]) hx hb dX9_areSo_54 rfl hl (Nat.le_of_ble_eq_true rfl) rfl (fun ls hl => ?_)
          obtain ⟨y8, ey8⟩ : ∃ y : Int32, y = x4 + 1 := ⟨_, rfl⟩
          have hM := s_lt hM y8 ey8
          refine lv_iinc (v := y8) (lv' := [(4, .int y8), (3, .int 0), (0, .ref q_t)]) hx hb dX9_areSo_55 hl (k := 2) rfl (by rw [ey8]; rfl) (Nat.le_of_ble_eq_true rfl) rfl (fun ls hl => ?_)
          refine lv_goto (tgt := 14) hx hb dX9_areSo_58 (by decide) ?_
          exact ih 0 y8 t_queueMany t_servedNow t_doneAt t_queueNow t_servedAt (s_jp hM) _ _ hP hD hS _ (lv_sub hl [2, 1, 0] rfl)
        · have hM := (s_if hM).2 c7
          refine lv_aload_n hx hb dX9_areSo_27 rfl (lv_at hl 0 rfl) ?_
          refine va_get (ci := 8) (v := .ref q_t_servedAt) (C := RX9) (T := TX9) (N := 31) hx hb hts iX9 hown hK.1 hP 0 rfl rfl 18 (Nat.le_of_ble_eq_true rfl) k1 (fun _ h9 => h9) rfl dX9_areSo_28 ?_
          refine lv_aload_n hx hb dX9_areSo_31 rfl (lv_at hl 0 rfl) ?_
          refine va_get (ci := 8) (v := .ref q_t_readingOf) (C := RX9) (T := TX9) (N := 31) hx hb hts iX9 hown hK.1 hP 0 rfl rfl 21 (Nat.le_of_ble_eq_true rfl) k2 (fun _ h9 => h9) rfl dX9_areSo_32 ?_
          refine lv_iload hx hb dX9_areSo_35 (lv_at hl 2 rfl) ?_
          obtain ⟨h9, hM⟩ := s_ck hM
          refine va_iald hx hb hK.1 hP 7 0 rfl rfl h9 dX9_areSo_37 ?_
          obtain ⟨h10, hM⟩ := s_ck hM
          refine va_iald hx hb hK.1 hP 6 0 rfl rfl h10 dX9_areSo_38 ?_
          refine lv_aload_n hx hb dX9_areSo_39 rfl (lv_at hl 0 rfl) ?_
          refine va_get (ci := 8) (v := .ref q_t_readingAt) (C := RX9) (T := TX9) (N := 31) hx hb hts iX9 hown hK.1 hP 0 rfl rfl 22 (Nat.le_of_ble_eq_true rfl) k3 (fun _ h9 => h9) rfl dX9_areSo_40 ?_
          refine lv_iload hx hb dX9_areSo_43 (lv_at hl 2 rfl) ?_
          obtain ⟨h11, hM⟩ := s_ck hM
          refine va_iald hx hb hK.1 hP 8 0 rfl rfl h11 dX9_areSo_45 ?_
          refine lv_icmp_ne (tgt := 53) hx hb dX9_areSo_46 (by decide) (fun c12 => ?_) (fun c12 => ?_)
          · have hM := (s_if hM).2 c12
            refine lv_iconst (v := 0) hx hb dX9_areSo_53 (by decide) ?_
            refine lv_istore_n (lv' := [(3, .int 0), (0, .ref q_t), (4, .int x4)]) hx hb dX9_areSo_54 rfl hl (Nat.le_of_ble_eq_true rfl) rfl (fun ls hl => ?_)
            obtain ⟨y13, ey13⟩ : ∃ y : Int32, y = x4 + 1 := ⟨_, rfl⟩
            have hM := s_lt hM y13 ey13
            refine lv_iinc (v := y13) (lv' := [(4, .int y13), (3, .int 0), (0, .ref q_t)]) hx hb dX9_areSo_55 hl (k := 2) rfl (by rw [ey13]; rfl) (Nat.le_of_ble_eq_true rfl) rfl (fun ls hl => ?_)
            refine lv_goto (tgt := 14) hx hb dX9_areSo_58 (by decide) ?_
            exact ih 0 y13 t_queueMany t_servedNow t_doneAt t_queueNow t_servedAt (s_jp hM) _ _ hP hD hS _ (lv_sub hl [2, 1, 0] rfl)
          · have hM := (s_if hM).1 c12
            refine lv_iconst (v := 1) hx hb dX9_areSo_49 (by decide) ?_
            refine lv_goto (tgt := 54) hx hb dX9_areSo_50 (by decide) ?_
            refine lv_istore_n (lv' := [(3, .int 1), (0, .ref q_t), (4, .int x4)]) hx hb dX9_areSo_54 rfl hl (Nat.le_of_ble_eq_true rfl) rfl (fun ls hl => ?_)
            obtain ⟨y14, ey14⟩ : ∃ y : Int32, y = x4 + 1 := ⟨_, rfl⟩
            have hM := s_lt hM y14 ey14
            refine lv_iinc (v := y14) (lv' := [(4, .int y14), (3, .int 1), (0, .ref q_t)]) hx hb dX9_areSo_55 hl (k := 2) rfl (by rw [ey14]; rfl) (Nat.le_of_ble_eq_true rfl) rfl (fun ls hl => ?_)
            refine lv_goto (tgt := 14) hx hb dX9_areSo_58 (by decide) ?_
            exact ih 1 y14 t_queueMany t_servedNow t_doneAt t_queueNow t_servedAt (s_jp hM) _ _ hP hD hS _ (lv_sub hl [2, 1, 0] rfl)
  have J14 : ∀ (x3 : Int32) (x4 : Int32) (t_queueMany : Int32) (t_servedNow : Int32) (t_doneAt : Int32) (t_queueNow : Nat → Int32) (t_servedAt : Nat → Int32), Mo_areSo_l14 p_set t_persons t_law t_readings t_kindOf t_comes t_wants t_runs t_readingOf t_readingAt x3 x4 t_queueMany t_servedNow t_doneAt t_queueNow t_servedAt = some o → ∀ (H : Heap) (locs : List Loc), va_P D vwCl (w_Mo_areSo cI cJ cS q_t q_t_kindOf q_t_comes q_t_wants q_t_runs q_t_readKind q_t_readComes q_t_readWants q_t_queueNow q_t_servedAt q_t_comesWas q_t_readingOf q_t_readingAt q_t_sheetSize q_t_sheetLane q_t_sheet q_t_hands t_fault t_persons t_law t_bellSet t_readAt t_readLaw t_readMany t_queueMany t_servedNow t_doneAt t_readings t_whichMany t_whichOne t_whichTwo t_traceNow t_kindOf t_comes t_wants t_runs t_queueNow t_servedAt t_readingOf t_readingAt) H → va_D A (w_Mo_areSo cI cJ cS q_t q_t_kindOf q_t_comes q_t_wants q_t_runs q_t_readKind q_t_readComes q_t_readWants q_t_queueNow q_t_servedAt q_t_comesWas q_t_readingOf q_t_readingAt q_t_sheetSize q_t_sheetLane q_t_sheet q_t_hands t_fault t_persons t_law t_bellSet t_readAt t_readLaw t_readMany t_queueMany t_servedNow t_doneAt t_readings t_whichMany t_whichOne t_whichTwo t_traceNow t_kindOf t_comes t_wants t_runs t_queueNow t_servedAt t_readingOf t_readingAt) → va_S A s.heap H locs → ∀ ls : Array Slot, lv_has ls 5 [(0, .ref q_t), (3, .int x3), (4, .int x4)] → W p l e (headSpec wsX9_areSo rm_Mo_areSo).room s m args below meth c H locs 0 0 (MQ below (CQi D (w_Mo_areSo cI cJ cS q_t q_t_kindOf q_t_comes q_t_wants q_t_runs q_t_readKind q_t_readComes q_t_readWants q_t_queueNow q_t_servedAt q_t_comesWas q_t_readingOf q_t_readingAt q_t_sheetSize q_t_sheetLane q_t_sheet q_t_hands t_fault t_persons t_law t_bellSet t_readAt t_readLaw t_readMany o.2.1 o.2.2.1 o.2.2.2.1 t_readings t_whichMany t_whichOne t_whichTwo t_traceNow t_kindOf t_comes t_wants t_runs o.2.2.2.2.1 o.2.2.2.2.2 t_readingOf t_readingAt) A o.1) args s 0 0 A) (F0 m 14 ls []) := by
    intro x3 x4 t_queueMany t_servedNow t_doneAt t_queueNow t_servedAt hM
    unfold Mo_areSo_l14 at hM
    obtain ⟨n0, hM⟩ := fin_some hM
    exact (L14 n0) x3 x4 t_queueMany t_servedNow t_doneAt t_queueNow t_servedAt hM
  unfold Mo_areSo at hM
  refine lv_aload_n hx hb dX9_areSo_0 rfl (lv_at hl 0 rfl) ?_
  refine lv_aload_n hx hb dX9_areSo_1 rfl (lv_at hl 0 rfl) ?_
  obtain ⟨y1, h2, hM⟩ := o_bd hM
  refine af_i (ws2 := (w_Mo_areSo cI cJ cS q_t q_t_kindOf q_t_comes q_t_wants q_t_runs q_t_readKind q_t_readComes q_t_readWants q_t_queueNow q_t_servedAt q_t_comesWas q_t_readingOf q_t_readingAt q_t_sheetSize q_t_sheetLane q_t_sheet q_t_hands t_fault t_persons t_law t_bellSet t_readAt t_readLaw t_readMany t_queueMany t_servedNow t_doneAt t_readings t_whichMany t_whichOne t_whichTwo t_traceNow t_kindOf t_comes t_wants t_runs t_queueNow t_servedAt t_readingOf t_readingAt)) (va_runV (As := []) (rest := [.ref q_t]) ⟨hx, hb, hml, hown, hts⟩ (c_Mo_all l D cI cJ cS q_t q_t_kindOf q_t_comes q_t_wants q_t_runs q_t_readKind q_t_readComes q_t_readWants q_t_queueNow q_t_servedAt q_t_comesWas q_t_readingOf q_t_readingAt q_t_sheetSize q_t_sheetLane q_t_sheet q_t_hands t_fault t_persons t_law t_bellSet t_readAt t_readLaw t_readMany t_queueMany t_servedNow t_doneAt t_readings t_whichMany t_whichOne t_whichTwo t_traceNow y1 h2 _) (cwV 0 hts gX9_areSo_X9_all rfl rfl rfl (by decide +kernel) ⟨(Nat.le_of_ble_eq_true rfl), (Nat.le_of_ble_eq_true rfl)⟩) (pre_V hK hP hD [0] rfl rfl rfl rfl) rfl rfl hl.1 rfl (lv_room (Nat.le_of_ble_eq_true rfl)) dX9_areSo_2 ⟨Nat.zero_le _, Nat.zero_le _⟩) hP hD hS hA [0] [1, 2, 3, 4, 5, 6, 7, 8] [8, 0, 1, 2, 3, 4, 5, 6, 7] rfl rfl rfl (by decide) rfl rfl (fun H locs hP hD hS => ?_)
  refine lv_lload_n hx hb dX9_areSo_5 rfl (lv_at hl 1 rfl) ?_
  obtain ⟨y3, h4, hM⟩ := o_bd hM
  refine af_v (ws2 := (w_Mo_areSo cI cJ cS q_t q_t_kindOf q_t_comes q_t_wants q_t_runs q_t_readKind q_t_readComes q_t_readWants q_t_queueNow q_t_servedAt q_t_comesWas q_t_readingOf q_t_readingAt q_t_sheetSize q_t_sheetLane q_t_sheet q_t_hands t_fault t_persons t_law t_bellSet t_readAt t_readLaw t_readMany y3.1 y3.2.1 y3.2.2.1 t_readings t_whichMany t_whichOne t_whichTwo t_traceNow t_kindOf t_comes t_wants t_runs y3.2.2.2.1 y3.2.2.2.2 t_readingOf t_readingAt)) (va_runV (As := [.int y1, .long p_set]) (rest := []) ⟨hx, hb, hml, hown, hts⟩ (c_Mo_goDay l D cI cJ cS q_t q_t_kindOf q_t_comes q_t_wants q_t_runs q_t_readKind q_t_readComes q_t_readWants q_t_queueNow q_t_servedAt q_t_comesWas q_t_readingOf q_t_readingAt q_t_sheetSize q_t_sheetLane q_t_sheet q_t_hands t_fault t_persons t_law t_bellSet t_readAt t_readLaw t_readMany t_queueMany t_servedNow t_doneAt t_readings t_whichMany t_whichOne t_whichTwo t_traceNow t_kindOf t_comes t_wants t_runs t_queueNow t_servedAt y1 p_set y3 h4 _) (cwV 2 hts gX9_areSo_X9_goDay rfl rfl rfl (by decide +kernel) ⟨(Nat.le_of_ble_eq_true rfl), (Nat.le_of_ble_eq_true rfl)⟩) (pre_V hK hP hD [0, 1, 2, 3, 4, 5, 6] rfl rfl rfl rfl) rfl rfl hl.1 rfl (lv_room (Nat.le_of_ble_eq_true rfl)) dX9_areSo_6 ⟨Nat.zero_le _, Nat.zero_le _⟩) hP hD hS hA [0, 1, 2, 3, 4, 5, 6] [7, 8] [2, 3, 4, 5, 6, 7, 8, 0, 1] rfl rfl rfl (by decide) rfl rfl (fun H locs hP hD hS => ?_)
  refine lv_iconst (v := 1) hx hb dX9_areSo_9 (by decide) ?_
  refine lv_istore_n (lv' := [(3, .int 1), (0, .ref q_t), (1, .long p_set)]) hx hb dX9_areSo_10 rfl hl (Nat.le_of_ble_eq_true rfl) rfl (fun ls hl => ?_)
  refine lv_iconst (v := 0) hx hb dX9_areSo_11 (by decide) ?_
  refine lv_istore (lv' := [(4, .int 0), (3, .int 1), (0, .ref q_t), (1, .long p_set)]) hx hb dX9_areSo_12 hl (Nat.le_of_ble_eq_true rfl) rfl (fun ls hl => ?_)
  exact J14 1 0 y3.1 y3.2.1 y3.2.2.1 y3.2.2.2.1 y3.2.2.2.2 hM _ _ hP hD hS _ (lv_sub hl [2, 1, 0] rfl)
/-! ===== TurnQueueModel.tryBells ===== -/
abbrev w_Mo_tryBells (cI cJ cS : ClassId) (q_t : Nat) (q_t_kindOf : Nat) (q_t_comes : Nat) (q_t_wants : Nat) (q_t_runs : Nat) (q_t_readKind : Nat) (q_t_readComes : Nat) (q_t_readWants : Nat) (q_t_queueNow : Nat) (q_t_servedAt : Nat) (q_t_comesWas : Nat) (q_t_readingOf : Nat) (q_t_readingAt : Nat) (q_t_sheetSize : Nat) (q_t_sheetLane : Nat) (q_t_sheet : Nat) (q_t_hands : Nat) (t_fault : Int32) (t_persons : Int32) (t_law : Int32) (t_bellSet : Int64) (t_readAt : Int32) (t_readLaw : Int32) (t_readMany : Int32) (t_queueMany : Int32) (t_servedNow : Int32) (t_doneAt : Int32) (t_readings : Int32) (t_whichMany : Int32) (t_whichOne : Int32) (t_whichTwo : Int32) (t_traceNow : Int32) (t_kindOf : Nat → Int32) (t_comes : Nat → Int32) (t_wants : Nat → Int32) (t_runs : Nat → Int32) (t_queueNow : Nat → Int32) (t_servedAt : Nat → Int32) (t_readingOf : Nat → Int32) (t_readingAt : Nat → Int32) : va_W := [(q_t, .inr (8, [.int t_fault, .int t_persons, .int t_law, .ref q_t_kindOf, .ref q_t_comes, .ref q_t_wants, .ref q_t_runs, .long t_bellSet, .int t_readAt, .int t_readLaw, .int t_readMany, .ref q_t_readKind, .ref q_t_readComes, .ref q_t_readWants, .ref q_t_queueNow, .int t_queueMany, .int t_servedNow, .int t_doneAt, .ref q_t_servedAt, .ref q_t_comesWas, .int t_readings, .ref q_t_readingOf, .ref q_t_readingAt, .int t_whichMany, .int t_whichOne, .int t_whichTwo, .ref q_t_sheetSize, .ref q_t_sheetLane, .ref q_t_sheet, .ref q_t_hands, .int t_traceNow])), (q_t_kindOf, ar cI 7 t_kindOf), (q_t_comes, ar cI 7 t_comes), (q_t_wants, ar cI 7 t_wants), (q_t_runs, ar cI 7 t_runs), (q_t_queueNow, ar cI 7 t_queueNow), (q_t_servedAt, ar cI 7 t_servedAt), (q_t_readingOf, ar cI 8 t_readingOf), (q_t_readingAt, ar cI 8 t_readingAt)]
abbrev rm_Mo_tryBells : Room := { frames := 5, cells := 0, slots := 0, locals := 118 }
noncomputable def Mo_tryBells_j50 (p_one : Int32) (p_two : Int32) (t_persons : Int32) (t_law : Int32) (t_readings : Int32) (t_kindOf : Nat → Int32) (t_comes : Nat → Int32) (t_wants : Nat → Int32) (t_runs : Nat → Int32) (t_readingOf : Nat → Int32) (t_readingAt : Nat → Int32) (s1 : Int32) (t_queueMany : Int32) (t_servedNow : Int32) (t_doneAt : Int32) (t_whichMany : Int32) (t_whichOne : Int32) (t_whichTwo : Int32) (t_queueNow : Nat → Int32) (t_servedAt : Nat → Int32) : Option (Int32 × Int32 × Int32 × Int32 × Int32 × Int32 × (Nat → Int32) × (Nat → Int32)) :=
  if t_whichMany = 0 then
    lt (t_whichMany + 1) fun y10 =>
    some (t_queueMany, t_servedNow, t_doneAt, y10, s1, p_two, t_queueNow, t_servedAt)
  else
    lt (t_whichMany + 1) fun y9 =>
    some (t_queueMany, t_servedNow, t_doneAt, y9, s1, t_whichTwo, t_queueNow, t_servedAt)
noncomputable def Mo_tryBells_j24 (p_one : Int32) (p_two : Int32) (t_persons : Int32) (t_law : Int32) (t_readings : Int32) (t_kindOf : Nat → Int32) (t_comes : Nat → Int32) (t_wants : Nat → Int32) (t_runs : Nat → Int32) (t_readingOf : Nat → Int32) (t_readingAt : Nat → Int32) (s0 : Int64) (s1 : Int64) (t_queueMany : Int32) (t_servedNow : Int32) (t_doneAt : Int32) (t_whichMany : Int32) (t_whichOne : Int32) (t_whichTwo : Int32) (t_queueNow : Nat → Int32) (t_servedAt : Nat → Int32) : Option (Int32 × Int32 × Int32 × Int32 × Int32 × Int32 × (Nat → Int32) × (Nat → Int32)) :=
  lt (s0 ||| s1) fun y3 =>
  (Mo_areSo y3 t_persons t_law t_readings t_kindOf t_comes t_wants t_runs t_readingOf t_readingAt t_queueMany t_servedNow t_doneAt t_queueNow t_servedAt).bind fun y4 =>
  if y4.1 = 0 then
    some (y4.2.1, y4.2.2.1, y4.2.2.2.1, t_whichMany, t_whichOne, t_whichTwo, y4.2.2.2.2.1, y4.2.2.2.2.2)
  else
    if t_whichMany = 0 then
      Mo_tryBells_j50 p_one p_two t_persons t_law t_readings t_kindOf t_comes t_wants t_runs t_readingOf t_readingAt p_one y4.2.1 y4.2.2.1 y4.2.2.2.1 t_whichMany t_whichOne t_whichTwo y4.2.2.2.2.1 y4.2.2.2.2.2
    else
      Mo_tryBells_j50 p_one p_two t_persons t_law t_readings t_kindOf t_comes t_wants t_runs t_readingOf t_readingAt t_whichOne y4.2.1 y4.2.2.1 y4.2.2.2.1 t_whichMany t_whichOne t_whichTwo y4.2.2.2.2.1 y4.2.2.2.2.2
noncomputable def Mo_tryBells_j11 (p_one : Int32) (p_two : Int32) (t_persons : Int32) (t_law : Int32) (t_readings : Int32) (t_kindOf : Nat → Int32) (t_comes : Nat → Int32) (t_wants : Nat → Int32) (t_runs : Nat → Int32) (t_readingOf : Nat → Int32) (t_readingAt : Nat → Int32) (s0 : Int64) (t_queueMany : Int32) (t_servedNow : Int32) (t_doneAt : Int32) (t_whichMany : Int32) (t_whichOne : Int32) (t_whichTwo : Int32) (t_queueNow : Nat → Int32) (t_servedAt : Nat → Int32) : Option (Int32 × Int32 × Int32 × Int32 × Int32 × Int32 × (Nat → Int32) × (Nat → Int32)) :=
  if 0 ≤ p_two then
    Mo_tryBells_j24 p_one p_two t_persons t_law t_readings t_kindOf t_comes t_wants t_runs t_readingOf t_readingAt s0 ((1 : Int64) <<< (p_two.toInt64 &&& 63)) t_queueMany t_servedNow t_doneAt t_whichMany t_whichOne t_whichTwo t_queueNow t_servedAt
  else
    Mo_tryBells_j24 p_one p_two t_persons t_law t_readings t_kindOf t_comes t_wants t_runs t_readingOf t_readingAt s0 0 t_queueMany t_servedNow t_doneAt t_whichMany t_whichOne t_whichTwo t_queueNow t_servedAt
noncomputable def Mo_tryBells (p_one : Int32) (p_two : Int32) (t_persons : Int32) (t_law : Int32) (t_readings : Int32) (t_kindOf : Nat → Int32) (t_comes : Nat → Int32) (t_wants : Nat → Int32) (t_runs : Nat → Int32) (t_readingOf : Nat → Int32) (t_readingAt : Nat → Int32) (t_queueMany : Int32) (t_servedNow : Int32) (t_doneAt : Int32) (t_whichMany : Int32) (t_whichOne : Int32) (t_whichTwo : Int32) (t_queueNow : Nat → Int32) (t_servedAt : Nat → Int32) : Option (Int32 × Int32 × Int32 × Int32 × Int32 × Int32 × (Nat → Int32) × (Nat → Int32)) :=
  if 0 ≤ p_one then
    Mo_tryBells_j11 p_one p_two t_persons t_law t_readings t_kindOf t_comes t_wants t_runs t_readingOf t_readingAt ((1 : Int64) <<< (p_one.toInt64 &&& 63)) t_queueMany t_servedNow t_doneAt t_whichMany t_whichOne t_whichTwo t_queueNow t_servedAt
  else
    Mo_tryBells_j11 p_one p_two t_persons t_law t_readings t_kindOf t_comes t_wants t_runs t_readingOf t_readingAt 0 t_queueMany t_servedNow t_doneAt t_whichMany t_whichOne t_whichTwo t_queueNow t_servedAt
set_option maxRecDepth 100000 in
set_option maxHeartbeats 4000000 in
theorem c_Mo_tryBells (l : Launch) (D : va_G) (cI cJ cS : ClassId) (q_t q_t_kindOf q_t_comes q_t_wants q_t_runs q_t_readKind q_t_readComes q_t_readWants q_t_queueNow q_t_servedAt q_t_comesWas q_t_readingOf q_t_readingAt q_t_sheetSize q_t_sheetLane q_t_sheet q_t_hands : Nat) (t_fault : Int32) (t_persons : Int32) (t_law : Int32) (t_bellSet : Int64) (t_readAt : Int32) (t_readLaw : Int32) (t_readMany : Int32) (t_queueMany : Int32) (t_servedNow : Int32) (t_doneAt : Int32) (t_readings : Int32) (t_whichMany : Int32) (t_whichOne : Int32) (t_whichTwo : Int32) (t_traceNow : Int32) (t_kindOf : Nat → Int32) (t_comes : Nat → Int32) (t_wants : Nat → Int32) (t_runs : Nat → Int32) (t_queueNow : Nat → Int32) (t_servedAt : Nat → Int32) (t_readingOf : Nat → Int32) (t_readingAt : Nat → Int32) (p_one : Int32) (p_two : Int32) (o : Int32 × Int32 × Int32 × Int32 × Int32 × Int32 × (Nat → Int32) × (Nat → Int32)) (hM : Mo_tryBells p_one p_two t_persons t_law t_readings t_kindOf t_comes t_wants t_runs t_readingOf t_readingAt t_queueMany t_servedNow t_doneAt t_whichMany t_whichOne t_whichTwo t_queueNow t_servedAt = some o) : Cv l yX9_tryBells wsX9_tryBells rm_Mo_tryBells D cI cJ cS [.ref q_t, .int p_one, .int p_two] (w_Mo_tryBells cI cJ cS q_t q_t_kindOf q_t_comes q_t_wants q_t_runs q_t_readKind q_t_readComes q_t_readWants q_t_queueNow q_t_servedAt q_t_comesWas q_t_readingOf q_t_readingAt q_t_sheetSize q_t_sheetLane q_t_sheet q_t_hands t_fault t_persons t_law t_bellSet t_readAt t_readLaw t_readMany t_queueMany t_servedNow t_doneAt t_readings t_whichMany t_whichOne t_whichTwo t_traceNow t_kindOf t_comes t_wants t_runs t_queueNow t_servedAt t_readingOf t_readingAt) (w_Mo_tryBells cI cJ cS q_t q_t_kindOf q_t_comes q_t_wants q_t_runs q_t_readKind q_t_readComes q_t_readWants q_t_queueNow q_t_servedAt q_t_comesWas q_t_readingOf q_t_readingAt q_t_sheetSize q_t_sheetLane q_t_sheet q_t_hands t_fault t_persons t_law t_bellSet t_readAt t_readLaw t_readMany o.1 o.2.1 o.2.2.1 t_readings o.2.2.2.1 o.2.2.2.2.1 o.2.2.2.2.2.1 t_traceNow t_kindOf t_comes t_wants t_runs o.2.2.2.2.2.2.1 o.2.2.2.2.2.2.2 t_readingOf t_readingAt) := by
  refine Cv.of (cc := cX9_tryBells) (maxL := 5) (ret := none) (by decide) rfl (Nat.le_of_ble_eq_true rfl) ?_
  intro p e s m args below meth c A ls hE
  obtain ⟨hx, hb, hr, hml, hown, hts, hlocks, hK, hA, hP, hD, hS, hl⟩ := hE
  have hown : s.vm.findClass RX9 = some m.cls := hown
  have hl : lv_has ls 5 [(0, .ref q_t), (1, .int p_one), (2, .int p_two)] := hl
  have iX9 : ∀ w ∈ u_ws RX9 TX9 31, w ∈ wsX9_tryBells := by decide +kernel
  have k0 := hts (.fieldLink RX9 210 "TurnQueueModel" "whichMany" "I") (by decide +kernel)
  have k1 := hts (.fieldLink RX9 213 "TurnQueueModel" "whichOne" "I") (by decide +kernel)
  have k2 := hts (.fieldLink RX9 216 "TurnQueueModel" "whichTwo" "I") (by decide +kernel)
  have J50 : ∀ (s1 : Int32) (t_queueMany : Int32) (t_servedNow : Int32) (t_doneAt : Int32) (t_whichMany : Int32) (t_whichOne : Int32) (t_whichTwo : Int32) (t_queueNow : Nat → Int32) (t_servedAt : Nat → Int32), Mo_tryBells_j50 p_one p_two t_persons t_law t_readings t_kindOf t_comes t_wants t_runs t_readingOf t_readingAt s1 t_queueMany t_servedNow t_doneAt t_whichMany t_whichOne t_whichTwo t_queueNow t_servedAt = some o → ∀ (H : Heap) (locs : List Loc), va_P D vwCl (w_Mo_tryBells cI cJ cS q_t q_t_kindOf q_t_comes q_t_wants q_t_runs q_t_readKind q_t_readComes q_t_readWants q_t_queueNow q_t_servedAt q_t_comesWas q_t_readingOf q_t_readingAt q_t_sheetSize q_t_sheetLane q_t_sheet q_t_hands t_fault t_persons t_law t_bellSet t_readAt t_readLaw t_readMany t_queueMany t_servedNow t_doneAt t_readings t_whichMany t_whichOne t_whichTwo t_traceNow t_kindOf t_comes t_wants t_runs t_queueNow t_servedAt t_readingOf t_readingAt) H → va_D A (w_Mo_tryBells cI cJ cS q_t q_t_kindOf q_t_comes q_t_wants q_t_runs q_t_readKind q_t_readComes q_t_readWants q_t_queueNow q_t_servedAt q_t_comesWas q_t_readingOf q_t_readingAt q_t_sheetSize q_t_sheetLane q_t_sheet q_t_hands t_fault t_persons t_law t_bellSet t_readAt t_readLaw t_readMany t_queueMany t_servedNow t_doneAt t_readings t_whichMany t_whichOne t_whichTwo t_traceNow t_kindOf t_comes t_wants t_runs t_queueNow t_servedAt t_readingOf t_readingAt) → va_S A s.heap H locs → ∀ ls : Array Slot, lv_has ls 5 [(0, .ref q_t), (2, .int p_two)] → W p l e (headSpec wsX9_tryBells rm_Mo_tryBells).room s m args below meth c H locs 0 0 (MQ below (CQv D (w_Mo_tryBells cI cJ cS q_t q_t_kindOf q_t_comes q_t_wants q_t_runs q_t_readKind q_t_readComes q_t_readWants q_t_queueNow q_t_servedAt q_t_comesWas q_t_readingOf q_t_readingAt q_t_sheetSize q_t_sheetLane q_t_sheet q_t_hands t_fault t_persons t_law t_bellSet t_readAt t_readLaw t_readMany o.1 o.2.1 o.2.2.1 t_readings o.2.2.2.1 o.2.2.2.2.1 o.2.2.2.2.2.1 t_traceNow t_kindOf t_comes t_wants t_runs o.2.2.2.2.2.2.1 o.2.2.2.2.2.2.2 t_readingOf t_readingAt) A) args s 0 0 A) (F0 m 50 ls [.int s1, .ref q_t]) := by
    intro s1 t_queueMany t_servedNow t_doneAt t_whichMany t_whichOne t_whichTwo t_queueNow t_servedAt hM H locs hP hD hS ls hl
    unfold Mo_tryBells_j50 at hM
    refine va_put (ci := 8) (v := .int s1) (ty := .int) (C := RX9) (T := TX9) (N := 31) hx hb hts iX9 tyX9 tyX9_ok nmX9 hown hK.1 hP hD hS 0 rfl rfl 24 (Nat.le_of_ble_eq_true rfl) k1 (fun _ h9 => h9) rfl (tyX9_ok 24 (Nat.le_of_ble_eq_true rfl)) rfl rfl (Nat.le_of_ble_eq_true rfl) dX9_tryBells_50 (fun H locs hP hD hS => ?_)
    have hP : va_P D vwCl (w_Mo_tryBells cI cJ cS q_t q_t_kindOf q_t_comes q_t_wants q_t_runs q_t_readKind q_t_readComes q_t_readWants q_t_queueNow q_t_servedAt q_t_comesWas q_t_readingOf q_t_readingAt q_t_sheetSize q_t_sheetLane q_t_sheet q_t_hands t_fault t_persons t_law t_bellSet t_readAt t_readLaw t_readMany t_queueMany t_servedNow t_doneAt t_readings t_whichMany s1 t_whichTwo t_traceNow t_kindOf t_comes t_wants t_runs t_queueNow t_servedAt t_readingOf t_readingAt) H := hP
    have hD : va_D A (w_Mo_tryBells cI cJ cS q_t q_t_kindOf q_t_comes q_t_wants q_t_runs q_t_readKind q_t_readComes q_t_readWants q_t_queueNow q_t_servedAt q_t_comesWas q_t_readingOf q_t_readingAt q_t_sheetSize q_t_sheetLane q_t_sheet q_t_hands t_fault t_persons t_law t_bellSet t_readAt t_readLaw t_readMany t_queueMany t_servedNow t_doneAt t_readings t_whichMany s1 t_whichTwo t_traceNow t_kindOf t_comes t_wants t_runs t_queueNow t_servedAt t_readingOf t_readingAt) := hD
    refine lv_aload_n hx hb dX9_tryBells_53 rfl (lv_at hl 0 rfl) ?_
    refine lv_aload_n hx hb dX9_tryBells_54 rfl (lv_at hl 0 rfl) ?_
    refine va_get (ci := 8) (v := .int t_whichMany) (C := RX9) (T := TX9) (N := 31) hx hb hts iX9 hown hK.1 hP 0 rfl rfl 23 (Nat.le_of_ble_eq_true rfl) k0 (fun _ h9 => h9) rfl dX9_tryBells_55 ?_
    refine lv_if_ne (tgt := 65) hx hb dX9_tryBells_58 (by decide) (fun c8 => ?_) (fun c8 => ?_)
    · have hM := (o_if hM).2 c8
      refine lv_aload_n hx hb dX9_tryBells_65 rfl (lv_at hl 0 rfl) ?_
      refine va_get (ci := 8) (v := .int t_whichTwo) (C := RX9) (T := TX9) (N := 31) hx hb hts iX9 hown hK.1 hP 0 rfl rfl 25 (Nat.le_of_ble_eq_true rfl) k2 (fun _ h9 => h9) rfl dX9_tryBells_66 ?_
      refine va_put (ci := 8) (v := .int t_whichTwo) (ty := .int) (C := RX9) (T := TX9) (N := 31) hx hb hts iX9 tyX9 tyX9_ok nmX9 hown hK.1 hP hD hS 0 rfl rfl 25 (Nat.le_of_ble_eq_true rfl) k2 (fun _ h9 => h9) rfl (tyX9_ok 25 (Nat.le_of_ble_eq_true rfl)) rfl rfl (Nat.le_of_ble_eq_true rfl) dX9_tryBells_69 (fun H locs hP hD hS => ?_)
      have hP : va_P D vwCl (w_Mo_tryBells cI cJ cS q_t q_t_kindOf q_t_comes q_t_wants q_t_runs q_t_readKind q_t_readComes q_t_readWants q_t_queueNow q_t_servedAt q_t_comesWas q_t_readingOf q_t_readingAt q_t_sheetSize q_t_sheetLane q_t_sheet q_t_hands t_fault t_persons t_law t_bellSet t_readAt t_readLaw t_readMany t_queueMany t_servedNow t_doneAt t_readings t_whichMany s1 t_whichTwo t_traceNow t_kindOf t_comes t_wants t_runs t_queueNow t_servedAt t_readingOf t_readingAt) H := hP
      have hD : va_D A (w_Mo_tryBells cI cJ cS q_t q_t_kindOf q_t_comes q_t_wants q_t_runs q_t_readKind q_t_readComes q_t_readWants q_t_queueNow q_t_servedAt q_t_comesWas q_t_readingOf q_t_readingAt q_t_sheetSize q_t_sheetLane q_t_sheet q_t_hands t_fault t_persons t_law t_bellSet t_readAt t_readLaw t_readMany t_queueMany t_servedNow t_doneAt t_readings t_whichMany s1 t_whichTwo t_traceNow t_kindOf t_comes t_wants t_runs t_queueNow t_servedAt t_readingOf t_readingAt) := hD
      refine lv_aload_n hx hb dX9_tryBells_72 rfl (lv_at hl 0 rfl) ?_
      refine lv_dup hx hb dX9_tryBells_73 rfl ?_
      refine va_get (ci := 8) (v := .int t_whichMany) (C := RX9) (T := TX9) (N := 31) hx hb hts iX9 hown hK.1 hP 0 rfl rfl 23 (Nat.le_of_ble_eq_true rfl) k0 (fun _ h9 => h9) rfl dX9_tryBells_74 ?_
      refine lv_iconst (v := 1) hx hb dX9_tryBells_77 (by decide) ?_
      refine lv_iadd hx hb dX9_tryBells_78 ?_
      refine lv_topi (fun y9 ey9 => ?_)
      have hM := o_lt hM y9 ey9
      refine va_put (ci := 8) (v := .int y9) (ty := .int) (C := RX9) (T := TX9) (N := 31) hx hb hts iX9 tyX9 tyX9_ok nmX9 hown hK.1 hP hD hS 0 rfl rfl 23 (Nat.le_of_ble_eq_true rfl) k0 (fun _ h9 => h9) rfl (tyX9_ok 23 (Nat.le_of_ble_eq_true rfl)) rfl rfl (Nat.le_of_ble_eq_true rfl) dX9_tryBells_79 (fun H locs hP hD hS => ?_)
      have hP : va_P D vwCl (w_Mo_tryBells cI cJ cS q_t q_t_kindOf q_t_comes q_t_wants q_t_runs q_t_readKind q_t_readComes q_t_readWants q_t_queueNow q_t_servedAt q_t_comesWas q_t_readingOf q_t_readingAt q_t_sheetSize q_t_sheetLane q_t_sheet q_t_hands t_fault t_persons t_law t_bellSet t_readAt t_readLaw t_readMany t_queueMany t_servedNow t_doneAt t_readings y9 s1 t_whichTwo t_traceNow t_kindOf t_comes t_wants t_runs t_queueNow t_servedAt t_readingOf t_readingAt) H := hP
      have hD : va_D A (w_Mo_tryBells cI cJ cS q_t q_t_kindOf q_t_comes q_t_wants q_t_runs q_t_readKind q_t_readComes q_t_readWants q_t_queueNow q_t_servedAt q_t_comesWas q_t_readingOf q_t_readingAt q_t_sheetSize q_t_sheetLane q_t_sheet q_t_hands t_fault t_persons t_law t_bellSet t_readAt t_readLaw t_readMany t_queueMany t_servedNow t_doneAt t_readings y9 s1 t_whichTwo t_traceNow t_kindOf t_comes t_wants t_runs t_queueNow t_servedAt t_readingOf t_readingAt) := hD
      have hM := (Option.some.inj hM)
      subst hM
      exact rt_v hx hb hr hlocks hP hD hS dX9_tryBells_82
    · have hM := (o_if hM).1 c8
      refine lv_iload_n hx hb dX9_tryBells_61 rfl (lv_at hl 1 rfl) ?_
      refine lv_goto (tgt := 69) hx hb dX9_tryBells_62 (by decide) ?_
      refine va_put (ci := 8) (v := .int p_two) (ty := .int) (C := RX9) (T := TX9) (N := 31) hx hb hts iX9 tyX9 tyX9_ok nmX9 hown hK.1 hP hD hS 0 rfl rfl 25 (Nat.le_of_ble_eq_true rfl) k2 (fun _ h9 => h9) rfl (tyX9_ok 25 (Nat.le_of_ble_eq_true rfl)) rfl rfl (Nat.le_of_ble_eq_true rfl) dX9_tryBells_69 (fun H locs hP hD hS => ?_)
      have hP : va_P D vwCl (w_Mo_tryBells cI cJ cS q_t q_t_kindOf q_t_comes q_t_wants q_t_runs q_t_readKind q_t_readComes q_t_readWants q_t_queueNow q_t_servedAt q_t_comesWas q_t_readingOf q_t_readingAt q_t_sheetSize q_t_sheetLane q_t_sheet q_t_hands t_fault t_persons t_law t_bellSet t_readAt t_readLaw t_readMany t_queueMany t_servedNow t_doneAt t_readings t_whichMany s1 p_two t_traceNow t_kindOf t_comes t_wants t_runs t_queueNow t_servedAt t_readingOf t_readingAt) H := hP
      have hD : va_D A (w_Mo_tryBells cI cJ cS q_t q_t_kindOf q_t_comes q_t_wants q_t_runs q_t_readKind q_t_readComes q_t_readWants q_t_queueNow q_t_servedAt q_t_comesWas q_t_readingOf q_t_readingAt q_t_sheetSize q_t_sheetLane q_t_sheet q_t_hands t_fault t_persons t_law t_bellSet t_readAt t_readLaw t_readMany t_queueMany t_servedNow t_doneAt t_readings t_whichMany s1 p_two t_traceNow t_kindOf t_comes t_wants t_runs t_queueNow t_servedAt t_readingOf t_readingAt) := hD
      refine lv_aload_n hx hb dX9_tryBells_72 rfl (lv_at hl 0 rfl) ?_
      refine lv_dup hx hb dX9_tryBells_73 rfl ?_
      refine va_get (ci := 8) (v := .int t_whichMany) (C := RX9) (T := TX9) (N := 31) hx hb hts iX9 hown hK.1 hP 0 rfl rfl 23 (Nat.le_of_ble_eq_true rfl) k0 (fun _ h9 => h9) rfl dX9_tryBells_74 ?_
      refine lv_iconst (v := 1) hx hb dX9_tryBells_77 (by decide) ?_
      refine lv_iadd hx hb dX9_tryBells_78 ?_
      refine lv_topi (fun y10 ey10 => ?_)
      have hM := o_lt hM y10 ey10
      refine va_put (ci := 8) (v := .int y10) (ty := .int) (C := RX9) (T := TX9) (N := 31) hx hb hts iX9 tyX9 tyX9_ok nmX9 hown hK.1 hP hD hS 0 rfl rfl 23 (Nat.le_of_ble_eq_true rfl) k0 (fun _ h9 => h9) rfl (tyX9_ok 23 (Nat.le_of_ble_eq_true rfl)) rfl rfl (Nat.le_of_ble_eq_true rfl) dX9_tryBells_79 (fun H locs hP hD hS => ?_)
      have hP : va_P D vwCl (w_Mo_tryBells cI cJ cS q_t q_t_kindOf q_t_comes q_t_wants q_t_runs q_t_readKind q_t_readComes q_t_readWants q_t_queueNow q_t_servedAt q_t_comesWas q_t_readingOf q_t_readingAt q_t_sheetSize q_t_sheetLane q_t_sheet q_t_hands t_fault t_persons t_law t_bellSet t_readAt t_readLaw t_readMany t_queueMany t_servedNow t_doneAt t_readings y10 s1 p_two t_traceNow t_kindOf t_comes t_wants t_runs t_queueNow t_servedAt t_readingOf t_readingAt) H := hP
      have hD : va_D A (w_Mo_tryBells cI cJ cS q_t q_t_kindOf q_t_comes q_t_wants q_t_runs q_t_readKind q_t_readComes q_t_readWants q_t_queueNow q_t_servedAt q_t_comesWas q_t_readingOf q_t_readingAt q_t_sheetSize q_t_sheetLane q_t_sheet q_t_hands t_fault t_persons t_law t_bellSet t_readAt t_readLaw t_readMany t_queueMany t_servedNow t_doneAt t_readings y10 s1 p_two t_traceNow t_kindOf t_comes t_wants t_runs t_queueNow t_servedAt t_readingOf t_readingAt) := hD
      have hM := (Option.some.inj hM)
      subst hM
      exact rt_v hx hb hr hlocks hP hD hS dX9_tryBells_82
  have J24 : ∀ (s0 : Int64) (s1 : Int64) (t_queueMany : Int32) (t_servedNow : Int32) (t_doneAt : Int32) (t_whichMany : Int32) (t_whichOne : Int32) (t_whichTwo : Int32) (t_queueNow : Nat → Int32) (t_servedAt : Nat → Int32), Mo_tryBells_j24 p_one p_two t_persons t_law t_readings t_kindOf t_comes t_wants t_runs t_readingOf t_readingAt s0 s1 t_queueMany t_servedNow t_doneAt t_whichMany t_whichOne t_whichTwo t_queueNow t_servedAt = some o → ∀ (H : Heap) (locs : List Loc), va_P D vwCl (w_Mo_tryBells cI cJ cS q_t q_t_kindOf q_t_comes q_t_wants q_t_runs q_t_readKind q_t_readComes q_t_readWants q_t_queueNow q_t_servedAt q_t_comesWas q_t_readingOf q_t_readingAt q_t_sheetSize q_t_sheetLane q_t_sheet q_t_hands t_fault t_persons t_law t_bellSet t_readAt t_readLaw t_readMany t_queueMany t_servedNow t_doneAt t_readings t_whichMany t_whichOne t_whichTwo t_traceNow t_kindOf t_comes t_wants t_runs t_queueNow t_servedAt t_readingOf t_readingAt) H → va_D A (w_Mo_tryBells cI cJ cS q_t q_t_kindOf q_t_comes q_t_wants q_t_runs q_t_readKind q_t_readComes q_t_readWants q_t_queueNow q_t_servedAt q_t_comesWas q_t_readingOf q_t_readingAt q_t_sheetSize q_t_sheetLane q_t_sheet q_t_hands t_fault t_persons t_law t_bellSet t_readAt t_readLaw t_readMany t_queueMany t_servedNow t_doneAt t_readings t_whichMany t_whichOne t_whichTwo t_traceNow t_kindOf t_comes t_wants t_runs t_queueNow t_servedAt t_readingOf t_readingAt) → va_S A s.heap H locs → ∀ ls : Array Slot, lv_has ls 5 [(0, .ref q_t), (1, .int p_one), (2, .int p_two)] → W p l e (headSpec wsX9_tryBells rm_Mo_tryBells).room s m args below meth c H locs 0 0 (MQ below (CQv D (w_Mo_tryBells cI cJ cS q_t q_t_kindOf q_t_comes q_t_wants q_t_runs q_t_readKind q_t_readComes q_t_readWants q_t_queueNow q_t_servedAt q_t_comesWas q_t_readingOf q_t_readingAt q_t_sheetSize q_t_sheetLane q_t_sheet q_t_hands t_fault t_persons t_law t_bellSet t_readAt t_readLaw t_readMany o.1 o.2.1 o.2.2.1 t_readings o.2.2.2.1 o.2.2.2.2.1 o.2.2.2.2.2.1 t_traceNow t_kindOf t_comes t_wants t_runs o.2.2.2.2.2.2.1 o.2.2.2.2.2.2.2 t_readingOf t_readingAt) A) args s 0 0 A) (F0 m 24 ls [.long s1, .long s0]) := by
    intro s0 s1 t_queueMany t_servedNow t_doneAt t_whichMany t_whichOne t_whichTwo t_queueNow t_servedAt hM H locs hP hD hS ls hl
    unfold Mo_tryBells_j24 at hM
    refine lv_lor hx hb dX9_tryBells_24 ?_
    refine lv_topl (fun y3 ey3 => ?_)
    have hM := o_lt hM y3 ey3
    refine lv_lstore_n (lv' := [(3, .long y3), (0, .ref q_t), (1, .int p_one), (2, .int p_two)]) hx hb dX9_tryBells_25 rfl hl (Nat.le_of_ble_eq_true rfl) rfl (fun ls hl => ?_)
    refine lv_aload_n hx hb dX9_tryBells_26 rfl (lv_at hl 1 rfl) ?_
    refine lv_lload_n hx hb dX9_tryBells_27 rfl (lv_at hl 0 rfl) ?_
    obtain ⟨y4, h5, hM⟩ := o_bd hM
    refine af_i (ws2 := (w_Mo_tryBells cI cJ cS q_t q_t_kindOf q_t_comes q_t_wants q_t_runs q_t_readKind q_t_readComes q_t_readWants q_t_queueNow q_t_servedAt q_t_comesWas q_t_readingOf q_t_readingAt q_t_sheetSize q_t_sheetLane q_t_sheet q_t_hands t_fault t_persons t_law t_bellSet t_readAt t_readLaw t_readMany y4.2.1 y4.2.2.1 y4.2.2.2.1 t_readings t_whichMany t_whichOne t_whichTwo t_traceNow t_kindOf t_comes t_wants t_runs y4.2.2.2.2.1 y4.2.2.2.2.2 t_readingOf t_readingAt)) (va_runV (As := [.long y3]) (rest := []) ⟨hx, hb, hml, hown, hts⟩ (c_Mo_areSo l D cI cJ cS q_t q_t_kindOf q_t_comes q_t_wants q_t_runs q_t_readKind q_t_readComes q_t_readWants q_t_queueNow q_t_servedAt q_t_comesWas q_t_readingOf q_t_readingAt q_t_sheetSize q_t_sheetLane q_t_sheet q_t_hands t_fault t_persons t_law t_bellSet t_readAt t_readLaw t_readMany t_queueMany t_servedNow t_doneAt t_readings t_whichMany t_whichOne t_whichTwo t_traceNow t_kindOf t_comes t_wants t_runs t_queueNow t_servedAt t_readingOf t_readingAt y3 y4 h5 _) (cwV 1 hts gX9_tryBells_X9_areSo rfl rfl rfl (by decide +kernel) ⟨(Nat.le_of_ble_eq_true rfl), (Nat.le_of_ble_eq_true rfl)⟩) (pre_V hK hP hD [0, 1, 2, 3, 4, 5, 6, 7, 8] rfl rfl rfl rfl) rfl rfl hl.1 rfl (lv_room (Nat.le_of_ble_eq_true rfl)) dX9_tryBells_28 ⟨Nat.zero_le _, Nat.zero_le _⟩) hP hD hS hA [0, 1, 2, 3, 4, 5, 6, 7, 8] [] [0, 1, 2, 3, 4, 5, 6, 7, 8] rfl rfl rfl (by decide) rfl rfl (fun H locs hP hD hS => ?_)
    refine lv_if_eq (tgt := 82) hx hb dX9_tryBells_31 (by decide) (fun c6 => ?_) (fun c6 => ?_)
    · have hM := (o_if hM).1 c6
      have hM := (Option.some.inj hM)
      subst hM
      exact rt_v hx hb hr hlocks hP hD hS dX9_tryBells_82
    · have hM := (o_if hM).2 c6
      refine lv_aload_n hx hb dX9_tryBells_34 rfl (lv_at hl 1 rfl) ?_
      refine lv_aload_n hx hb dX9_tryBells_35 rfl (lv_at hl 1 rfl) ?_
      refine va_get (ci := 8) (v := .int t_whichMany) (C := RX9) (T := TX9) (N := 31) hx hb hts iX9 hown hK.1 hP 0 rfl rfl 23 (Nat.le_of_ble_eq_true rfl) k0 (fun _ h9 => h9) rfl dX9_tryBells_36 ?_
      refine lv_if_ne (tgt := 46) hx hb dX9_tryBells_39 (by decide) (fun c7 => ?_) (fun c7 => ?_)
      · have hM := (o_if hM).2 c7
        refine lv_aload_n hx hb dX9_tryBells_46 rfl (lv_at hl 1 rfl) ?_
        refine va_get (ci := 8) (v := .int t_whichOne) (C := RX9) (T := TX9) (N := 31) hx hb hts iX9 hown hK.1 hP 0 rfl rfl 24 (Nat.le_of_ble_eq_true rfl) k1 (fun _ h9 => h9) rfl dX9_tryBells_47 ?_
        exact J50 t_whichOne y4.2.1 y4.2.2.1 y4.2.2.2.1 t_whichMany t_whichOne t_whichTwo y4.2.2.2.2.1 y4.2.2.2.2.2 hM _ _ hP hD hS _ (lv_sub hl [1, 3] rfl)
      · have hM := (o_if hM).1 c7
        refine lv_iload_n hx hb dX9_tryBells_42 rfl (lv_at hl 2 rfl) ?_
        refine lv_goto (tgt := 50) hx hb dX9_tryBells_43 (by decide) ?_
        exact J50 p_one y4.2.1 y4.2.2.1 y4.2.2.2.1 t_whichMany t_whichOne t_whichTwo y4.2.2.2.2.1 y4.2.2.2.2.2 hM _ _ hP hD hS _ (lv_sub hl [1, 3] rfl)
  have J11 : ∀ (s0 : Int64) (t_queueMany : Int32) (t_servedNow : Int32) (t_doneAt : Int32) (t_whichMany : Int32) (t_whichOne : Int32) (t_whichTwo : Int32) (t_queueNow : Nat → Int32) (t_servedAt : Nat → Int32), Mo_tryBells_j11 p_one p_two t_persons t_law t_readings t_kindOf t_comes t_wants t_runs t_readingOf t_readingAt s0 t_queueMany t_servedNow t_doneAt t_whichMany t_whichOne t_whichTwo t_queueNow t_servedAt = some o → ∀ (H : Heap) (locs : List Loc), va_P D vwCl (w_Mo_tryBells cI cJ cS q_t q_t_kindOf q_t_comes q_t_wants q_t_runs q_t_readKind q_t_readComes q_t_readWants q_t_queueNow q_t_servedAt q_t_comesWas q_t_readingOf q_t_readingAt q_t_sheetSize q_t_sheetLane q_t_sheet q_t_hands t_fault t_persons t_law t_bellSet t_readAt t_readLaw t_readMany t_queueMany t_servedNow t_doneAt t_readings t_whichMany t_whichOne t_whichTwo t_traceNow t_kindOf t_comes t_wants t_runs t_queueNow t_servedAt t_readingOf t_readingAt) H → va_D A (w_Mo_tryBells cI cJ cS q_t q_t_kindOf q_t_comes q_t_wants q_t_runs q_t_readKind q_t_readComes q_t_readWants q_t_queueNow q_t_servedAt q_t_comesWas q_t_readingOf q_t_readingAt q_t_sheetSize q_t_sheetLane q_t_sheet q_t_hands t_fault t_persons t_law t_bellSet t_readAt t_readLaw t_readMany t_queueMany t_servedNow t_doneAt t_readings t_whichMany t_whichOne t_whichTwo t_traceNow t_kindOf t_comes t_wants t_runs t_queueNow t_servedAt t_readingOf t_readingAt) → va_S A s.heap H locs → ∀ ls : Array Slot, lv_has ls 5 [(0, .ref q_t), (1, .int p_one), (2, .int p_two)] → W p l e (headSpec wsX9_tryBells rm_Mo_tryBells).room s m args below meth c H locs 0 0 (MQ below (CQv D (w_Mo_tryBells cI cJ cS q_t q_t_kindOf q_t_comes q_t_wants q_t_runs q_t_readKind q_t_readComes q_t_readWants q_t_queueNow q_t_servedAt q_t_comesWas q_t_readingOf q_t_readingAt q_t_sheetSize q_t_sheetLane q_t_sheet q_t_hands t_fault t_persons t_law t_bellSet t_readAt t_readLaw t_readMany o.1 o.2.1 o.2.2.1 t_readings o.2.2.2.1 o.2.2.2.2.1 o.2.2.2.2.2.1 t_traceNow t_kindOf t_comes t_wants t_runs o.2.2.2.2.2.2.1 o.2.2.2.2.2.2.2 t_readingOf t_readingAt) A) args s 0 0 A) (F0 m 11 ls [.long s0]) := by
    intro s0 t_queueMany t_servedNow t_doneAt t_whichMany t_whichOne t_whichTwo t_queueNow t_servedAt hM H locs hP hD hS ls hl
    unfold Mo_tryBells_j11 at hM
    refine lv_lstore_n (lv' := [(3, .long s0), (0, .ref q_t), (1, .int p_one), (2, .int p_two)]) hx hb dX9_tryBells_11 rfl hl (Nat.le_of_ble_eq_true rfl) rfl (fun ls hl => ?_)
    refine lv_lload_n hx hb dX9_tryBells_12 rfl (lv_at hl 0 rfl) ?_
    refine lv_iload_n hx hb dX9_tryBells_13 rfl (lv_at hl 3 rfl) ?_
    refine lv_if_ge (tgt := 21) hx hb dX9_tryBells_14 (by decide) (fun c2 => ?_) (fun c2 => ?_)
    · have hM := (o_if hM).1 c2
      refine lv_lconst (v := 1) hx hb dX9_tryBells_21 (by decide) ?_
      refine lv_iload_n hx hb dX9_tryBells_22 rfl (lv_at hl 3 rfl) ?_
      refine lv_lshl (v := (1 : Int64) <<< (p_two.toInt64 &&& 63)) hx hb dX9_tryBells_23 rfl ?_
      exact J24 s0 ((1 : Int64) <<< (p_two.toInt64 &&& 63)) t_queueMany t_servedNow t_doneAt t_whichMany t_whichOne t_whichTwo t_queueNow t_servedAt hM _ _ hP hD hS _ (lv_sub hl [1, 2, 3] rfl)
    · have hM := (o_if hM).2 c2
      refine lv_lconst (v := 0) hx hb dX9_tryBells_17 (by decide) ?_
      refine lv_goto (tgt := 24) hx hb dX9_tryBells_18 (by decide) ?_
      exact J24 s0 0 t_queueMany t_servedNow t_doneAt t_whichMany t_whichOne t_whichTwo t_queueNow t_servedAt hM _ _ hP hD hS _ (lv_sub hl [1, 2, 3] rfl)
  unfold Mo_tryBells at hM
  refine lv_iload_n hx hb dX9_tryBells_0 rfl (lv_at hl 1 rfl) ?_
  refine lv_if_ge (tgt := 8) hx hb dX9_tryBells_1 (by decide) (fun c1 => ?_) (fun c1 => ?_)
  · have hM := (o_if hM).1 c1
    refine lv_lconst (v := 1) hx hb dX9_tryBells_8 (by decide) ?_
    refine lv_iload_n hx hb dX9_tryBells_9 rfl (lv_at hl 1 rfl) ?_
    refine lv_lshl (v := (1 : Int64) <<< (p_one.toInt64 &&& 63)) hx hb dX9_tryBells_10 rfl ?_
    exact J11 ((1 : Int64) <<< (p_one.toInt64 &&& 63)) t_queueMany t_servedNow t_doneAt t_whichMany t_whichOne t_whichTwo t_queueNow t_servedAt hM _ _ hP hD hS _ (lv_sub hl [0, 1, 2] rfl)
  · have hM := (o_if hM).2 c1
    refine lv_lconst (v := 0) hx hb dX9_tryBells_4 (by decide) ?_
    refine lv_goto (tgt := 11) hx hb dX9_tryBells_5 (by decide) ?_
    exact J11 0 t_queueMany t_servedNow t_doneAt t_whichMany t_whichOne t_whichTwo t_queueNow t_servedAt hM _ _ hP hD hS _ (lv_sub hl [0, 1, 2] rfl)
/-! ===== TurnQueueModel.which ===== -/
abbrev w_Mo_which (cI cJ cS : ClassId) (q_t : Nat) (q_t_kindOf : Nat) (q_t_comes : Nat) (q_t_wants : Nat) (q_t_runs : Nat) (q_t_readKind : Nat) (q_t_readComes : Nat) (q_t_readWants : Nat) (q_t_queueNow : Nat) (q_t_servedAt : Nat) (q_t_comesWas : Nat) (q_t_readingOf : Nat) (q_t_readingAt : Nat) (q_t_sheetSize : Nat) (q_t_sheetLane : Nat) (q_t_sheet : Nat) (q_t_hands : Nat) (t_fault : Int32) (t_persons : Int32) (t_law : Int32) (t_bellSet : Int64) (t_readAt : Int32) (t_readLaw : Int32) (t_readMany : Int32) (t_queueMany : Int32) (t_servedNow : Int32) (t_doneAt : Int32) (t_readings : Int32) (t_whichMany : Int32) (t_whichOne : Int32) (t_whichTwo : Int32) (t_traceNow : Int32) (t_kindOf : Nat → Int32) (t_comes : Nat → Int32) (t_wants : Nat → Int32) (t_runs : Nat → Int32) (t_queueNow : Nat → Int32) (t_servedAt : Nat → Int32) (t_readingOf : Nat → Int32) (t_readingAt : Nat → Int32) : va_W := [(q_t, .inr (8, [.int t_fault, .int t_persons, .int t_law, .ref q_t_kindOf, .ref q_t_comes, .ref q_t_wants, .ref q_t_runs, .long t_bellSet, .int t_readAt, .int t_readLaw, .int t_readMany, .ref q_t_readKind, .ref q_t_readComes, .ref q_t_readWants, .ref q_t_queueNow, .int t_queueMany, .int t_servedNow, .int t_doneAt, .ref q_t_servedAt, .ref q_t_comesWas, .int t_readings, .ref q_t_readingOf, .ref q_t_readingAt, .int t_whichMany, .int t_whichOne, .int t_whichTwo, .ref q_t_sheetSize, .ref q_t_sheetLane, .ref q_t_sheet, .ref q_t_hands, .int t_traceNow])), (q_t_kindOf, ar cI 7 t_kindOf), (q_t_comes, ar cI 7 t_comes), (q_t_wants, ar cI 7 t_wants), (q_t_runs, ar cI 7 t_runs), (q_t_queueNow, ar cI 7 t_queueNow), (q_t_servedAt, ar cI 7 t_servedAt), (q_t_readingOf, ar cI 8 t_readingOf), (q_t_readingAt, ar cI 8 t_readingAt)]
abbrev rm_Mo_which : Room := { frames := 6, cells := 0, slots := 0, locals := 142 }
noncomputable def Mo_which_j106 (p_q : Int32) (t_persons : Int32) (t_law : Int32) (t_readings : Int32) (t_kindOf : Nat → Int32) (t_comes : Nat → Int32) (t_wants : Nat → Int32) (t_runs : Nat → Int32) (t_readingOf : Nat → Int32) (t_readingAt : Nat → Int32) (t_queueMany : Int32) (t_servedNow : Int32) (t_doneAt : Int32) (t_whichMany : Int32) (t_whichOne : Int32) (t_whichTwo : Int32) (t_queueNow : Nat → Int32) (t_servedAt : Nat → Int32) : Option (Int32 × Int32 × Int32 × Int32 × Int32 × Int32 × Int32 × (Nat → Int32) × (Nat → Int32)) :=
  if 0 ≤ p_q then
    if p_q = 0 then
      some (t_whichOne, t_queueMany, t_servedNow, t_doneAt, t_whichMany, t_whichOne, t_whichTwo, t_queueNow, t_servedAt)
    else
      some (t_whichTwo, t_queueMany, t_servedNow, t_doneAt, t_whichMany, t_whichOne, t_whichTwo, t_queueNow, t_servedAt)
  else
    some (t_whichMany, t_queueMany, t_servedNow, t_doneAt, t_whichMany, t_whichOne, t_whichTwo, t_queueNow, t_servedAt)
noncomputable def Mo_which_b72 (p_q : Int32) (t_persons : Int32) (t_law : Int32) (t_readings : Int32) (t_kindOf : Nat → Int32) (t_comes : Nat → Int32) (t_wants : Nat → Int32) (t_runs : Nat → Int32) (t_readingOf : Nat → Int32) (t_readingAt : Nat → Int32) (x2 : Int32) (t_queueMany : Int32) (t_servedNow : Int32) (t_doneAt : Int32) (t_whichMany : Int32) (t_whichOne : Int32) (t_whichTwo : Int32) (t_queueNow : Nat → Int32) (t_servedAt : Nat → Int32) : Option ((Nat × Int32 × Int32 × Int32 × Int32 × Int32 × Int32 × Int32 × Int32 × (Nat → Int32) × (Nat → Int32)) ⊕ (Int32 × Int32 × Int32 × Int32 × Int32 × Int32 × Int32 × (Nat → Int32) × (Nat → Int32))) :=
  if 60 ≤ x2 then
    ex (Mo_which_j106 p_q t_persons t_law t_readings t_kindOf t_comes t_wants t_runs t_readingOf t_readingAt t_queueMany t_servedNow t_doneAt t_whichMany t_whichOne t_whichTwo t_queueNow t_servedAt)
  else
    lt (x2 + 1) fun y11 =>
    some (.inl (1, x2, y11, t_queueMany, t_servedNow, t_doneAt, t_whichMany, t_whichOne, t_whichTwo, t_queueNow, t_servedAt))
noncomputable def Mo_which_b82 (p_q : Int32) (t_persons : Int32) (t_law : Int32) (t_readings : Int32) (t_kindOf : Nat → Int32) (t_comes : Nat → Int32) (t_wants : Nat → Int32) (t_runs : Nat → Int32) (t_readingOf : Nat → Int32) (t_readingAt : Nat → Int32) (x2 : Int32) (x3 : Int32) (t_queueMany : Int32) (t_servedNow : Int32) (t_doneAt : Int32) (t_whichMany : Int32) (t_whichOne : Int32) (t_whichTwo : Int32) (t_queueNow : Nat → Int32) (t_servedAt : Nat → Int32) : Option ((Nat × Int32 × Int32 × Int32 × Int32 × Int32 × Int32 × Int32 × Int32 × (Nat → Int32) × (Nat → Int32)) ⊕ (Int32 × Int32 × Int32 × Int32 × Int32 × Int32 × Int32 × (Nat → Int32) × (Nat → Int32))) :=
  if 60 ≤ x3 then
    lt (x2 + 1) fun y13 =>
    some (.inl (0, y13, 0, t_queueMany, t_servedNow, t_doneAt, t_whichMany, t_whichOne, t_whichTwo, t_queueNow, t_servedAt))
  else
    (Mo_tryBells x2 x3 t_persons t_law t_readings t_kindOf t_comes t_wants t_runs t_readingOf t_readingAt t_queueMany t_servedNow t_doneAt t_whichMany t_whichOne t_whichTwo t_queueNow t_servedAt).bind fun y14 =>
    lt (x3 + 1) fun y16 =>
    some (.inl (1, x2, y16, y14.1, y14.2.1, y14.2.2.1, y14.2.2.2.1, y14.2.2.2.2.1, y14.2.2.2.2.2.1, y14.2.2.2.2.2.2.1, y14.2.2.2.2.2.2.2))
noncomputable def Mo_which_s72 (p_q : Int32) (t_persons : Int32) (t_law : Int32) (t_readings : Int32) (t_kindOf : Nat → Int32) (t_comes : Nat → Int32) (t_wants : Nat → Int32) (t_runs : Nat → Int32) (t_readingOf : Nat → Int32) (t_readingAt : Nat → Int32) : (Nat × Int32 × Int32 × Int32 × Int32 × Int32 × Int32 × Int32 × Int32 × (Nat → Int32) × (Nat → Int32)) → Option ((Nat × Int32 × Int32 × Int32 × Int32 × Int32 × Int32 × Int32 × Int32 × (Nat → Int32) × (Nat → Int32)) ⊕ (Int32 × Int32 × Int32 × Int32 × Int32 × Int32 × Int32 × (Nat → Int32) × (Nat → Int32))) := fun x => match x.1 with
  | 0 => Mo_which_b72 p_q t_persons t_law t_readings t_kindOf t_comes t_wants t_runs t_readingOf t_readingAt x.2.1 x.2.2.2.1 x.2.2.2.2.1 x.2.2.2.2.2.1 x.2.2.2.2.2.2.1 x.2.2.2.2.2.2.2.1 x.2.2.2.2.2.2.2.2.1 x.2.2.2.2.2.2.2.2.2.1 x.2.2.2.2.2.2.2.2.2.2
  | 1 => Mo_which_b82 p_q t_persons t_law t_readings t_kindOf t_comes t_wants t_runs t_readingOf t_readingAt x.2.1 x.2.2.1 x.2.2.2.1 x.2.2.2.2.1 x.2.2.2.2.2.1 x.2.2.2.2.2.2.1 x.2.2.2.2.2.2.2.1 x.2.2.2.2.2.2.2.2.1 x.2.2.2.2.2.2.2.2.2.1 x.2.2.2.2.2.2.2.2.2.2
  | _ => none
noncomputable def Mo_which_l72 (p_q : Int32) (t_persons : Int32) (t_law : Int32) (t_readings : Int32) (t_kindOf : Nat → Int32) (t_comes : Nat → Int32) (t_wants : Nat → Int32) (t_runs : Nat → Int32) (t_readingOf : Nat → Int32) (t_readingAt : Nat → Int32) (x2 : Int32) (t_queueMany : Int32) (t_servedNow : Int32) (t_doneAt : Int32) (t_whichMany : Int32) (t_whichOne : Int32) (t_whichTwo : Int32) (t_queueNow : Nat → Int32) (t_servedAt : Nat → Int32) : Option (Int32 × Int32 × Int32 × Int32 × Int32 × Int32 × Int32 × (Nat → Int32) × (Nat → Int32)) := fin (Mo_which_s72 p_q t_persons t_law t_readings t_kindOf t_comes t_wants t_runs t_readingOf t_readingAt) (0, x2, 0, t_queueMany, t_servedNow, t_doneAt, t_whichMany, t_whichOne, t_whichTwo, t_queueNow, t_servedAt)
noncomputable def Mo_which_l82 (p_q : Int32) (t_persons : Int32) (t_law : Int32) (t_readings : Int32) (t_kindOf : Nat → Int32) (t_comes : Nat → Int32) (t_wants : Nat → Int32) (t_runs : Nat → Int32) (t_readingOf : Nat → Int32) (t_readingAt : Nat → Int32) (x2 : Int32) (x3 : Int32) (t_queueMany : Int32) (t_servedNow : Int32) (t_doneAt : Int32) (t_whichMany : Int32) (t_whichOne : Int32) (t_whichTwo : Int32) (t_queueNow : Nat → Int32) (t_servedAt : Nat → Int32) : Option (Int32 × Int32 × Int32 × Int32 × Int32 × Int32 × Int32 × (Nat → Int32) × (Nat → Int32)) := fin (Mo_which_s72 p_q t_persons t_law t_readings t_kindOf t_comes t_wants t_runs t_readingOf t_readingAt) (1, x2, x3, t_queueMany, t_servedNow, t_doneAt, t_whichMany, t_whichOne, t_whichTwo, t_queueNow, t_servedAt)
noncomputable def Mo_which_b51 (p_q : Int32) (t_persons : Int32) (t_law : Int32) (t_readings : Int32) (t_kindOf : Nat → Int32) (t_comes : Nat → Int32) (t_wants : Nat → Int32) (t_runs : Nat → Int32) (t_readingOf : Nat → Int32) (t_readingAt : Nat → Int32) (x2 : Int32) (t_queueMany : Int32) (t_servedNow : Int32) (t_doneAt : Int32) (t_whichMany : Int32) (t_whichOne : Int32) (t_whichTwo : Int32) (t_queueNow : Nat → Int32) (t_servedAt : Nat → Int32) : Option ((Int32 × Int32 × Int32 × Int32 × Int32 × Int32 × Int32 × (Nat → Int32) × (Nat → Int32)) ⊕ (Int32 × Int32 × Int32 × Int32 × Int32 × Int32 × Int32 × (Nat → Int32) × (Nat → Int32))) :=
  if 60 ≤ x2 then
    ex (Mo_which_l72 p_q t_persons t_law t_readings t_kindOf t_comes t_wants t_runs t_readingOf t_readingAt 0 t_queueMany t_servedNow t_doneAt t_whichMany t_whichOne t_whichTwo t_queueNow t_servedAt)
  else
    (Mo_tryBells x2 (-9) t_persons t_law t_readings t_kindOf t_comes t_wants t_runs t_readingOf t_readingAt t_queueMany t_servedNow t_doneAt t_whichMany t_whichOne t_whichTwo t_queueNow t_servedAt).bind fun y17 =>
    lt (x2 + 1) fun y19 =>
    some (.inl (y19, y17.1, y17.2.1, y17.2.2.1, y17.2.2.2.1, y17.2.2.2.2.1, y17.2.2.2.2.2.1, y17.2.2.2.2.2.2.1, y17.2.2.2.2.2.2.2))
noncomputable def Mo_which_s51 (p_q : Int32) (t_persons : Int32) (t_law : Int32) (t_readings : Int32) (t_kindOf : Nat → Int32) (t_comes : Nat → Int32) (t_wants : Nat → Int32) (t_runs : Nat → Int32) (t_readingOf : Nat → Int32) (t_readingAt : Nat → Int32) : (Int32 × Int32 × Int32 × Int32 × Int32 × Int32 × Int32 × (Nat → Int32) × (Nat → Int32)) → Option ((Int32 × Int32 × Int32 × Int32 × Int32 × Int32 × Int32 × (Nat → Int32) × (Nat → Int32)) ⊕ (Int32 × Int32 × Int32 × Int32 × Int32 × Int32 × Int32 × (Nat → Int32) × (Nat → Int32))) := fun x => Mo_which_b51 p_q t_persons t_law t_readings t_kindOf t_comes t_wants t_runs t_readingOf t_readingAt x.1 x.2.1 x.2.2.1 x.2.2.2.1 x.2.2.2.2.1 x.2.2.2.2.2.1 x.2.2.2.2.2.2.1 x.2.2.2.2.2.2.2.1 x.2.2.2.2.2.2.2.2
noncomputable def Mo_which_l51 (p_q : Int32) (t_persons : Int32) (t_law : Int32) (t_readings : Int32) (t_kindOf : Nat → Int32) (t_comes : Nat → Int32) (t_wants : Nat → Int32) (t_runs : Nat → Int32) (t_readingOf : Nat → Int32) (t_readingAt : Nat → Int32) (x2 : Int32) (t_queueMany : Int32) (t_servedNow : Int32) (t_doneAt : Int32) (t_whichMany : Int32) (t_whichOne : Int32) (t_whichTwo : Int32) (t_queueNow : Nat → Int32) (t_servedAt : Nat → Int32) : Option (Int32 × Int32 × Int32 × Int32 × Int32 × Int32 × Int32 × (Nat → Int32) × (Nat → Int32)) := fin (Mo_which_s51 p_q t_persons t_law t_readings t_kindOf t_comes t_wants t_runs t_readingOf t_readingAt) (x2, t_queueMany, t_servedNow, t_doneAt, t_whichMany, t_whichOne, t_whichTwo, t_queueNow, t_servedAt)
noncomputable def Mo_which (p_q : Int32) (t_persons : Int32) (t_law : Int32) (t_readings : Int32) (t_kindOf : Nat → Int32) (t_comes : Nat → Int32) (t_wants : Nat → Int32) (t_runs : Nat → Int32) (t_readingOf : Nat → Int32) (t_readingAt : Nat → Int32) (t_queueMany : Int32) (t_servedNow : Int32) (t_doneAt : Int32) (t_whichMany : Int32) (t_whichOne : Int32) (t_whichTwo : Int32) (t_queueNow : Nat → Int32) (t_servedAt : Nat → Int32) : Option (Int32 × Int32 × Int32 × Int32 × Int32 × Int32 × Int32 × (Nat → Int32) × (Nat → Int32)) :=
  (Mo_in p_q.toInt64 (-1) 1).bind fun y1 =>
  if y1 = 0 then
    some ((-1), t_queueMany, t_servedNow, t_doneAt, t_whichMany, t_whichOne, t_whichTwo, t_queueNow, t_servedAt)
  else
    if t_persons = 0 then
      some ((-3), t_queueMany, t_servedNow, t_doneAt, t_whichMany, t_whichOne, t_whichTwo, t_queueNow, t_servedAt)
    else
      (Mo_tryBells (-9) (-9) t_persons t_law t_readings t_kindOf t_comes t_wants t_runs t_readingOf t_readingAt t_queueMany t_servedNow t_doneAt 0 (-9) (-9) t_queueNow t_servedAt).bind fun y5 =>
      Mo_which_l51 p_q t_persons t_law t_readings t_kindOf t_comes t_wants t_runs t_readingOf t_readingAt 0 y5.1 y5.2.1 y5.2.2.1 y5.2.2.2.1 y5.2.2.2.2.1 y5.2.2.2.2.2.1 y5.2.2.2.2.2.2.1 y5.2.2.2.2.2.2.2
theorem Mo_which_l72_eq (p_q : Int32) (t_persons : Int32) (t_law : Int32) (t_readings : Int32) (t_kindOf : Nat → Int32) (t_comes : Nat → Int32) (t_wants : Nat → Int32) (t_runs : Nat → Int32) (t_readingOf : Nat → Int32) (t_readingAt : Nat → Int32) (x2 : Int32) (t_queueMany : Int32) (t_servedNow : Int32) (t_doneAt : Int32) (t_whichMany : Int32) (t_whichOne : Int32) (t_whichTwo : Int32) (t_queueNow : Nat → Int32) (t_servedAt : Nat → Int32) : Mo_which_l72 p_q t_persons t_law t_readings t_kindOf t_comes t_wants t_runs t_readingOf t_readingAt x2 t_queueMany t_servedNow t_doneAt t_whichMany t_whichOne t_whichTwo t_queueNow t_servedAt = (Mo_which_b72 p_q t_persons t_law t_readings t_kindOf t_comes t_wants t_runs t_readingOf t_readingAt x2 t_queueMany t_servedNow t_doneAt t_whichMany t_whichOne t_whichTwo t_queueNow t_servedAt).bind (sg (fin (Mo_which_s72 p_q t_persons t_law t_readings t_kindOf t_comes t_wants t_runs t_readingOf t_readingAt))) := by
  unfold Mo_which_l72
  exact fin_eq _ _
theorem Mo_which_l72_fd (p_q : Int32) (t_persons : Int32) (t_law : Int32) (t_readings : Int32) (t_kindOf : Nat → Int32) (t_comes : Nat → Int32) (t_wants : Nat → Int32) (t_runs : Nat → Int32) (t_readingOf : Nat → Int32) (t_readingAt : Nat → Int32) (x2 : Int32) (t_queueMany : Int32) (t_servedNow : Int32) (t_doneAt : Int32) (t_whichMany : Int32) (t_whichOne : Int32) (t_whichTwo : Int32) (t_queueNow : Nat → Int32) (t_servedAt : Nat → Int32) : fin (Mo_which_s72 p_q t_persons t_law t_readings t_kindOf t_comes t_wants t_runs t_readingOf t_readingAt) (0, x2, 0, t_queueMany, t_servedNow, t_doneAt, t_whichMany, t_whichOne, t_whichTwo, t_queueNow, t_servedAt) = Mo_which_l72 p_q t_persons t_law t_readings t_kindOf t_comes t_wants t_runs t_readingOf t_readingAt x2 t_queueMany t_servedNow t_doneAt t_whichMany t_whichOne t_whichTwo t_queueNow t_servedAt := rfl
theorem Mo_which_l82_eq (p_q : Int32) (t_persons : Int32) (t_law : Int32) (t_readings : Int32) (t_kindOf : Nat → Int32) (t_comes : Nat → Int32) (t_wants : Nat → Int32) (t_runs : Nat → Int32) (t_readingOf : Nat → Int32) (t_readingAt : Nat → Int32) (x2 : Int32) (x3 : Int32) (t_queueMany : Int32) (t_servedNow : Int32) (t_doneAt : Int32) (t_whichMany : Int32) (t_whichOne : Int32) (t_whichTwo : Int32) (t_queueNow : Nat → Int32) (t_servedAt : Nat → Int32) : Mo_which_l82 p_q t_persons t_law t_readings t_kindOf t_comes t_wants t_runs t_readingOf t_readingAt x2 x3 t_queueMany t_servedNow t_doneAt t_whichMany t_whichOne t_whichTwo t_queueNow t_servedAt = (Mo_which_b82 p_q t_persons t_law t_readings t_kindOf t_comes t_wants t_runs t_readingOf t_readingAt x2 x3 t_queueMany t_servedNow t_doneAt t_whichMany t_whichOne t_whichTwo t_queueNow t_servedAt).bind (sg (fin (Mo_which_s72 p_q t_persons t_law t_readings t_kindOf t_comes t_wants t_runs t_readingOf t_readingAt))) := by
  unfold Mo_which_l82
  exact fin_eq _ _
theorem Mo_which_l82_fd (p_q : Int32) (t_persons : Int32) (t_law : Int32) (t_readings : Int32) (t_kindOf : Nat → Int32) (t_comes : Nat → Int32) (t_wants : Nat → Int32) (t_runs : Nat → Int32) (t_readingOf : Nat → Int32) (t_readingAt : Nat → Int32) (x2 : Int32) (x3 : Int32) (t_queueMany : Int32) (t_servedNow : Int32) (t_doneAt : Int32) (t_whichMany : Int32) (t_whichOne : Int32) (t_whichTwo : Int32) (t_queueNow : Nat → Int32) (t_servedAt : Nat → Int32) : fin (Mo_which_s72 p_q t_persons t_law t_readings t_kindOf t_comes t_wants t_runs t_readingOf t_readingAt) (1, x2, x3, t_queueMany, t_servedNow, t_doneAt, t_whichMany, t_whichOne, t_whichTwo, t_queueNow, t_servedAt) = Mo_which_l82 p_q t_persons t_law t_readings t_kindOf t_comes t_wants t_runs t_readingOf t_readingAt x2 x3 t_queueMany t_servedNow t_doneAt t_whichMany t_whichOne t_whichTwo t_queueNow t_servedAt := rfl
theorem Mo_which_l51_eq (p_q : Int32) (t_persons : Int32) (t_law : Int32) (t_readings : Int32) (t_kindOf : Nat → Int32) (t_comes : Nat → Int32) (t_wants : Nat → Int32) (t_runs : Nat → Int32) (t_readingOf : Nat → Int32) (t_readingAt : Nat → Int32) (x2 : Int32) (t_queueMany : Int32) (t_servedNow : Int32) (t_doneAt : Int32) (t_whichMany : Int32) (t_whichOne : Int32) (t_whichTwo : Int32) (t_queueNow : Nat → Int32) (t_servedAt : Nat → Int32) : Mo_which_l51 p_q t_persons t_law t_readings t_kindOf t_comes t_wants t_runs t_readingOf t_readingAt x2 t_queueMany t_servedNow t_doneAt t_whichMany t_whichOne t_whichTwo t_queueNow t_servedAt = (Mo_which_b51 p_q t_persons t_law t_readings t_kindOf t_comes t_wants t_runs t_readingOf t_readingAt x2 t_queueMany t_servedNow t_doneAt t_whichMany t_whichOne t_whichTwo t_queueNow t_servedAt).bind (sg (fin (Mo_which_s51 p_q t_persons t_law t_readings t_kindOf t_comes t_wants t_runs t_readingOf t_readingAt))) := by
  unfold Mo_which_l51
  exact fin_eq _ _
theorem Mo_which_l51_fd (p_q : Int32) (t_persons : Int32) (t_law : Int32) (t_readings : Int32) (t_kindOf : Nat → Int32) (t_comes : Nat → Int32) (t_wants : Nat → Int32) (t_runs : Nat → Int32) (t_readingOf : Nat → Int32) (t_readingAt : Nat → Int32) (x2 : Int32) (t_queueMany : Int32) (t_servedNow : Int32) (t_doneAt : Int32) (t_whichMany : Int32) (t_whichOne : Int32) (t_whichTwo : Int32) (t_queueNow : Nat → Int32) (t_servedAt : Nat → Int32) : fin (Mo_which_s51 p_q t_persons t_law t_readings t_kindOf t_comes t_wants t_runs t_readingOf t_readingAt) (x2, t_queueMany, t_servedNow, t_doneAt, t_whichMany, t_whichOne, t_whichTwo, t_queueNow, t_servedAt) = Mo_which_l51 p_q t_persons t_law t_readings t_kindOf t_comes t_wants t_runs t_readingOf t_readingAt x2 t_queueMany t_servedNow t_doneAt t_whichMany t_whichOne t_whichTwo t_queueNow t_servedAt := rfl
set_option maxRecDepth 100000 in
set_option maxHeartbeats 4000000 in
theorem c_Mo_which (l : Launch) (D : va_G) (cI cJ cS : ClassId) (q_t q_t_kindOf q_t_comes q_t_wants q_t_runs q_t_readKind q_t_readComes q_t_readWants q_t_queueNow q_t_servedAt q_t_comesWas q_t_readingOf q_t_readingAt q_t_sheetSize q_t_sheetLane q_t_sheet q_t_hands : Nat) (t_fault : Int32) (t_persons : Int32) (t_law : Int32) (t_bellSet : Int64) (t_readAt : Int32) (t_readLaw : Int32) (t_readMany : Int32) (t_queueMany : Int32) (t_servedNow : Int32) (t_doneAt : Int32) (t_readings : Int32) (t_whichMany : Int32) (t_whichOne : Int32) (t_whichTwo : Int32) (t_traceNow : Int32) (t_kindOf : Nat → Int32) (t_comes : Nat → Int32) (t_wants : Nat → Int32) (t_runs : Nat → Int32) (t_queueNow : Nat → Int32) (t_servedAt : Nat → Int32) (t_readingOf : Nat → Int32) (t_readingAt : Nat → Int32) (p_q : Int32) (o : Int32 × Int32 × Int32 × Int32 × Int32 × Int32 × Int32 × (Nat → Int32) × (Nat → Int32)) (hM : Mo_which p_q t_persons t_law t_readings t_kindOf t_comes t_wants t_runs t_readingOf t_readingAt t_queueMany t_servedNow t_doneAt t_whichMany t_whichOne t_whichTwo t_queueNow t_servedAt = some o) : Ci l yX9_which wsX9_which rm_Mo_which D cI cJ cS [.ref q_t, .int p_q] (w_Mo_which cI cJ cS q_t q_t_kindOf q_t_comes q_t_wants q_t_runs q_t_readKind q_t_readComes q_t_readWants q_t_queueNow q_t_servedAt q_t_comesWas q_t_readingOf q_t_readingAt q_t_sheetSize q_t_sheetLane q_t_sheet q_t_hands t_fault t_persons t_law t_bellSet t_readAt t_readLaw t_readMany t_queueMany t_servedNow t_doneAt t_readings t_whichMany t_whichOne t_whichTwo t_traceNow t_kindOf t_comes t_wants t_runs t_queueNow t_servedAt t_readingOf t_readingAt) (w_Mo_which cI cJ cS q_t q_t_kindOf q_t_comes q_t_wants q_t_runs q_t_readKind q_t_readComes q_t_readWants q_t_queueNow q_t_servedAt q_t_comesWas q_t_readingOf q_t_readingAt q_t_sheetSize q_t_sheetLane q_t_sheet q_t_hands t_fault t_persons t_law t_bellSet t_readAt t_readLaw t_readMany o.2.1 o.2.2.1 o.2.2.2.1 t_readings o.2.2.2.2.1 o.2.2.2.2.2.1 o.2.2.2.2.2.2.1 t_traceNow t_kindOf t_comes t_wants t_runs o.2.2.2.2.2.2.2.1 o.2.2.2.2.2.2.2.2 t_readingOf t_readingAt) o.1 := by
  refine Ci.of (cc := cX9_which) (maxL := 4) (ret := (some .int)) (by decide) rfl (Nat.le_of_ble_eq_true rfl) ?_
  intro p e s m args below meth c A ls hE
  obtain ⟨hx, hb, hr, hml, hown, hts, hlocks, hK, hA, hP, hD, hS, hl⟩ := hE
  have hown : s.vm.findClass RX9 = some m.cls := hown
  have hl : lv_has ls 4 [(0, .ref q_t), (1, .int p_q)] := hl
  have iX9 : ∀ w ∈ u_ws RX9 TX9 31, w ∈ wsX9_which := by decide +kernel
  have k0 := hts (.constantLong RX9 138 (-1)) (by decide +kernel)
  have k1 := hts (.fieldLink RX9 68 "TurnQueueModel" "persons" "I") (by decide +kernel)
  have k2 := hts (.fieldLink RX9 210 "TurnQueueModel" "whichMany" "I") (by decide +kernel)
  have k3 := hts (.fieldLink RX9 213 "TurnQueueModel" "whichOne" "I") (by decide +kernel)
  have k4 := hts (.fieldLink RX9 216 "TurnQueueModel" "whichTwo" "I") (by decide +kernel)
  have J106 : ∀ (t_queueMany : Int32) (t_servedNow : Int32) (t_doneAt : Int32) (t_whichMany : Int32) (t_whichOne : Int32) (t_whichTwo : Int32) (t_queueNow : Nat → Int32) (t_servedAt : Nat → Int32), Mo_which_j106 p_q t_persons t_law t_readings t_kindOf t_comes t_wants t_runs t_readingOf t_readingAt t_queueMany t_servedNow t_doneAt t_whichMany t_whichOne t_whichTwo t_queueNow t_servedAt = some o → ∀ (H : Heap) (locs : List Loc), va_P D vwCl (w_Mo_which cI cJ cS q_t q_t_kindOf q_t_comes q_t_wants q_t_runs q_t_readKind q_t_readComes q_t_readWants q_t_queueNow q_t_servedAt q_t_comesWas q_t_readingOf q_t_readingAt q_t_sheetSize q_t_sheetLane q_t_sheet q_t_hands t_fault t_persons t_law t_bellSet t_readAt t_readLaw t_readMany t_queueMany t_servedNow t_doneAt t_readings t_whichMany t_whichOne t_whichTwo t_traceNow t_kindOf t_comes t_wants t_runs t_queueNow t_servedAt t_readingOf t_readingAt) H → va_D A (w_Mo_which cI cJ cS q_t q_t_kindOf q_t_comes q_t_wants q_t_runs q_t_readKind q_t_readComes q_t_readWants q_t_queueNow q_t_servedAt q_t_comesWas q_t_readingOf q_t_readingAt q_t_sheetSize q_t_sheetLane q_t_sheet q_t_hands t_fault t_persons t_law t_bellSet t_readAt t_readLaw t_readMany t_queueMany t_servedNow t_doneAt t_readings t_whichMany t_whichOne t_whichTwo t_traceNow t_kindOf t_comes t_wants t_runs t_queueNow t_servedAt t_readingOf t_readingAt) → va_S A s.heap H locs → ∀ ls : Array Slot, lv_has ls 4 [(0, .ref q_t), (1, .int p_q)] → W p l e (headSpec wsX9_which rm_Mo_which).room s m args below meth c H locs 0 0 (MQ below (CQi D (w_Mo_which cI cJ cS q_t q_t_kindOf q_t_comes q_t_wants q_t_runs q_t_readKind q_t_readComes q_t_readWants q_t_queueNow q_t_servedAt q_t_comesWas q_t_readingOf q_t_readingAt q_t_sheetSize q_t_sheetLane q_t_sheet q_t_hands t_fault t_persons t_law t_bellSet t_readAt t_readLaw t_readMany o.2.1 o.2.2.1 o.2.2.2.1 t_readings o.2.2.2.2.1 o.2.2.2.2.2.1 o.2.2.2.2.2.2.1 t_traceNow t_kindOf t_comes t_wants t_runs o.2.2.2.2.2.2.2.1 o.2.2.2.2.2.2.2.2 t_readingOf t_readingAt) A o.1) args s 0 0 A) (F0 m 106 ls []) := by
    intro t_queueMany t_servedNow t_doneAt t_whichMany t_whichOne t_whichTwo t_queueNow t_servedAt hM H locs hP hD hS ls hl
    unfold Mo_which_j106 at hM
    refine lv_iload_n hx hb dX9_which_106 rfl (lv_at hl 1 rfl) ?_
    refine lv_if_ge (tgt := 117) hx hb dX9_which_107 (by decide) (fun c9 => ?_) (fun c9 => ?_)
    · have hM := (o_if hM).1 c9
      refine lv_iload_n hx hb dX9_which_117 rfl (lv_at hl 1 rfl) ?_
      refine lv_if_ne (tgt := 128) hx hb dX9_which_118 (by decide) (fun c10 => ?_) (fun c10 => ?_)
      · have hM := (o_if hM).2 c10
        refine lv_aload_n hx hb dX9_which_128 rfl (lv_at hl 0 rfl) ?_
        refine va_get (ci := 8) (v := .int t_whichTwo) (C := RX9) (T := TX9) (N := 31) hx hb hts iX9 hown hK.1 hP 0 rfl rfl 25 (Nat.le_of_ble_eq_true rfl) k4 (fun _ h9 => h9) rfl dX9_which_129 ?_
        have hM := (Option.some.inj hM)
        subst hM
        exact rt_i hx hb hr hlocks hP hD hS dX9_which_132
      · have hM := (o_if hM).1 c10
        refine lv_aload_n hx hb dX9_which_121 rfl (lv_at hl 0 rfl) ?_
        refine va_get (ci := 8) (v := .int t_whichOne) (C := RX9) (T := TX9) (N := 31) hx hb hts iX9 hown hK.1 hP 0 rfl rfl 24 (Nat.le_of_ble_eq_true rfl) k3 (fun _ h9 => h9) rfl dX9_which_122 ?_
        refine lv_goto (tgt := 132) hx hb dX9_which_125 (by decide) ?_
        have hM := (Option.some.inj hM)
        subst hM
        exact rt_i hx hb hr hlocks hP hD hS dX9_which_132
    · have hM := (o_if hM).2 c9
      refine lv_aload_n hx hb dX9_which_110 rfl (lv_at hl 0 rfl) ?_
      refine va_get (ci := 8) (v := .int t_whichMany) (C := RX9) (T := TX9) (N := 31) hx hb hts iX9 hown hK.1 hP 0 rfl rfl 23 (Nat.le_of_ble_eq_true rfl) k2 (fun _ h9 => h9) rfl dX9_which_111 ?_
      refine lv_goto (tgt := 132) hx hb dX9_which_114 (by decide) ?_
      have hM := (Option.some.inj hM)
      subst hM
      exact rt_i hx hb hr hlocks hP hD hS dX9_which_132
  have L72 : ∀ n : Nat, (∀ (x2 : Int32) (t_queueMany : Int32) (t_servedNow : Int32) (t_doneAt : Int32) (t_whichMany : Int32) (t_whichOne : Int32) (t_whichTwo : Int32) (t_queueNow : Nat → Int32) (t_servedAt : Nat → Int32), itr (Mo_which_s72 p_q t_persons t_law t_readings t_kindOf t_comes t_wants t_runs t_readingOf t_readingAt) n (0, x2, 0, t_queueMany, t_servedNow, t_doneAt, t_whichMany, t_whichOne, t_whichTwo, t_queueNow, t_servedAt) = some o → ∀ (H : Heap) (locs : List Loc), va_P D vwCl (w_Mo_which cI cJ cS q_t q_t_kindOf q_t_comes q_t_wants q_t_runs q_t_readKind q_t_readComes q_t_readWants q_t_queueNow q_t_servedAt q_t_comesWas q_t_readingOf q_t_readingAt q_t_sheetSize q_t_sheetLane q_t_sheet q_t_hands t_fault t_persons t_law t_bellSet t_readAt t_readLaw t_readMany t_queueMany t_servedNow t_doneAt t_readings t_whichMany t_whichOne t_whichTwo t_traceNow t_kindOf t_comes t_wants t_runs t_queueNow t_servedAt t_readingOf t_readingAt) H → va_D A (w_Mo_which cI cJ cS q_t q_t_kindOf q_t_comes q_t_wants q_t_runs q_t_readKind q_t_readComes q_t_readWants q_t_queueNow q_t_servedAt q_t_comesWas q_t_readingOf q_t_readingAt q_t_sheetSize q_t_sheetLane q_t_sheet q_t_hands t_fault t_persons t_law t_bellSet t_readAt t_readLaw t_readMany t_queueMany t_servedNow t_doneAt t_readings t_whichMany t_whichOne t_whichTwo t_traceNow t_kindOf t_comes t_wants t_runs t_queueNow t_servedAt t_readingOf t_readingAt) → va_S A s.heap H locs → ∀ ls : Array Slot, lv_has ls 4 [(0, .ref q_t), (1, .int p_q), (2, .int x2)] → W p l e (headSpec wsX9_which rm_Mo_which).room s m args below meth c H locs 0 0 (MQ below (CQi D (w_Mo_which cI cJ cS q_t q_t_kindOf q_t_comes q_t_wants q_t_runs q_t_readKind q_t_readComes q_t_readWants q_t_queueNow q_t_servedAt q_t_comesWas q_t_readingOf q_t_readingAt q_t_sheetSize q_t_sheetLane q_t_sheet q_t_hands t_fault t_persons t_law t_bellSet t_readAt t_readLaw t_readMany o.2.1 o.2.2.1 o.2.2.2.1 t_readings o.2.2.2.2.1 o.2.2.2.2.2.1 o.2.2.2.2.2.2.1 t_traceNow t_kindOf t_comes t_wants t_runs o.2.2.2.2.2.2.2.1 o.2.2.2.2.2.2.2.2 t_readingOf t_readingAt) A o.1) args s 0 0 A) (F0 m 72 ls [])) ∧ (∀ (x2 : Int32) (x3 : Int32) (t_queueMany : Int32) (t_servedNow : Int32) (t_doneAt : Int32) (t_whichMany : Int32) (t_whichOne : Int32) (t_whichTwo : Int32) (t_queueNow : Nat → Int32) (t_servedAt : Nat → Int32), itr (Mo_which_s72 p_q t_persons t_law t_readings t_kindOf t_comes t_wants t_runs t_readingOf t_readingAt) n (1, x2, x3, t_queueMany, t_servedNow, t_doneAt, t_whichMany, t_whichOne, t_whichTwo, t_queueNow, t_servedAt) = some o → ∀ (H : Heap) (locs : List Loc), va_P D vwCl (w_Mo_which cI cJ cS q_t q_t_kindOf q_t_comes q_t_wants q_t_runs q_t_readKind q_t_readComes q_t_readWants q_t_queueNow q_t_servedAt q_t_comesWas q_t_readingOf q_t_readingAt q_t_sheetSize q_t_sheetLane q_t_sheet q_t_hands t_fault t_persons t_law t_bellSet t_readAt t_readLaw t_readMany t_queueMany t_servedNow t_doneAt t_readings t_whichMany t_whichOne t_whichTwo t_traceNow t_kindOf t_comes t_wants t_runs t_queueNow t_servedAt t_readingOf t_readingAt) H → va_D A (w_Mo_which cI cJ cS q_t q_t_kindOf q_t_comes q_t_wants q_t_runs q_t_readKind q_t_readComes q_t_readWants q_t_queueNow q_t_servedAt q_t_comesWas q_t_readingOf q_t_readingAt q_t_sheetSize q_t_sheetLane q_t_sheet q_t_hands t_fault t_persons t_law t_bellSet t_readAt t_readLaw t_readMany t_queueMany t_servedNow t_doneAt t_readings t_whichMany t_whichOne t_whichTwo t_traceNow t_kindOf t_comes t_wants t_runs t_queueNow t_servedAt t_readingOf t_readingAt) → va_S A s.heap H locs → ∀ ls : Array Slot, lv_has ls 4 [(0, .ref q_t), (1, .int p_q), (2, .int x2), (3, .int x3)] → W p l e (headSpec wsX9_which rm_Mo_which).room s m args below meth c H locs 0 0 (MQ below (CQi D (w_Mo_which cI cJ cS q_t q_t_kindOf q_t_comes q_t_wants q_t_runs q_t_readKind q_t_readComes q_t_readWants q_t_queueNow q_t_servedAt q_t_comesWas q_t_readingOf q_t_readingAt q_t_sheetSize q_t_sheetLane q_t_sheet q_t_hands t_fault t_persons t_law t_bellSet t_readAt t_readLaw t_readMany o.2.1 o.2.2.1 o.2.2.2.1 t_readings o.2.2.2.2.1 o.2.2.2.2.2.1 o.2.2.2.2.2.2.1 t_traceNow t_kindOf t_comes t_wants t_runs o.2.2.2.2.2.2.2.1 o.2.2.2.2.2.2.2.2 t_readingOf t_readingAt) A o.1) args s 0 0 A) (F0 m 82 ls [])) := by
    intro n
    induction n with
    | zero => exact ⟨fun _ _ _ _ _ _ _ _ _ hM => (itr_0 hM).elim, fun _ _ _ _ _ _ _ _ _ _ hM => (itr_0 hM).elim⟩
    | succ n ih =>
      refine ⟨?_, ?_⟩
      · intro x2 t_queueMany t_servedNow t_doneAt t_whichMany t_whichOne t_whichTwo t_queueNow t_servedAt hM H locs hP hD hS ls hl
        have hM : (Mo_which_b72 p_q t_persons t_law t_readings t_kindOf t_comes t_wants t_runs t_readingOf t_readingAt x2 t_queueMany t_servedNow t_doneAt t_whichMany t_whichOne t_whichTwo t_queueNow t_servedAt).bind (sg (itr (Mo_which_s72 p_q t_persons t_law t_readings t_kindOf t_comes t_wants t_runs t_readingOf t_readingAt) n)) = some o := hM
        unfold Mo_which_b72 at hM
        refine lv_iload_n hx hb dX9_which_72 rfl (lv_at hl 2 rfl) ?_
        refine lv_bipush (v := 60) hx hb dX9_which_73 (by decide) ?_
        refine lv_icmp_ge (tgt := 106) hx hb dX9_which_75 (by decide) (fun c8 => ?_) (fun c8 => ?_)
        · have hM := (s_if hM).1 c8
          exact J106 t_queueMany t_servedNow t_doneAt t_whichMany t_whichOne t_whichTwo t_queueNow t_servedAt (s_ex hM) _ _ hP hD hS _ (lv_sub hl [0, 1] rfl)
        · have hM := (s_if hM).2 c8
          refine lv_iload_n hx hb dX9_which_78 rfl (lv_at hl 2 rfl) ?_
          refine lv_iconst (v := 1) hx hb dX9_which_79 (by decide) ?_
          refine lv_iadd hx hb dX9_which_80 ?_
          refine lv_topi (fun y11 ey11 => ?_)
          have hM := s_lt hM y11 ey11
          refine lv_istore_n (lv' := [(3, .int y11), (0, .ref q_t), (1, .int p_q), (2, .int x2)]) hx hb dX9_which_81 rfl hl (Nat.le_of_ble_eq_true rfl) rfl (fun ls hl => ?_)
          exact ih.2 x2 y11 t_queueMany t_servedNow t_doneAt t_whichMany t_whichOne t_whichTwo t_queueNow t_servedAt (s_jp hM) _ _ hP hD hS _ (lv_sub hl [1, 2, 3, 0] rfl)
      · intro x2 x3 t_queueMany t_servedNow t_doneAt t_whichMany t_whichOne t_whichTwo t_queueNow t_servedAt hM H locs hP hD hS ls hl
        have hM : (Mo_which_b82 p_q t_persons t_law t_readings t_kindOf t_comes t_wants t_runs t_readingOf t_readingAt x2 x3 t_queueMany t_servedNow t_doneAt t_whichMany t_whichOne t_whichTwo t_queueNow t_servedAt).bind (sg (itr (Mo_which_s72 p_q t_persons t_law t_readings t_kindOf t_comes t_wants t_runs t_readingOf t_readingAt) n)) = some o := hM
        unfold Mo_which_b82 at hM
        refine lv_iload_n hx hb dX9_which_82 rfl (lv_at hl 3 rfl) ?_
        refine lv_bipush (v := 60) hx hb dX9_which_83 (by decide) ?_
        refine lv_icmp_ge (tgt := 100) hx hb dX9_which_85 (by decide) (fun c12 => ?_) (fun c12 => ?_)
        · have hM := (s_if hM).1 c12
          obtain ⟨y13, ey13⟩ : ∃ y : Int32, y = x2 + 1 := ⟨_, rfl⟩
          have hM := s_lt hM y13 ey13
          refine lv_iinc (v := y13) (lv' := [(2, .int y13), (0, .ref q_t), (1, .int p_q), (3, .int x3)]) hx hb dX9_which_100 hl (k := 2) rfl (by rw [ey13]; rfl) (Nat.le_of_ble_eq_true rfl) rfl (fun ls hl => ?_)
          refine lv_goto (tgt := 72) hx hb dX9_which_103 (by decide) ?_
          exact ih.1 y13 t_queueMany t_servedNow t_doneAt t_whichMany t_whichOne t_whichTwo t_queueNow t_servedAt (s_jp hM) _ _ hP hD hS _ (lv_sub hl [1, 2, 0] rfl)
        · have hM := (s_if hM).2 c12
          refine lv_aload_n hx hb dX9_which_88 rfl (lv_at hl 0 rfl) ?_
          refine lv_iload_n hx hb dX9_which_89 rfl (lv_at hl 2 rfl) ?_
          refine lv_iload_n hx hb dX9_which_90 rfl (lv_at hl 3 rfl) ?_
          obtain ⟨y14, h15, hM⟩ := s_bd hM
          refine af_v (ws2 := (w_Mo_which cI cJ cS q_t q_t_kindOf q_t_comes q_t_wants q_t_runs q_t_readKind q_t_readComes q_t_readWants q_t_queueNow q_t_servedAt q_t_comesWas q_t_readingOf q_t_readingAt q_t_sheetSize q_t_sheetLane q_t_sheet q_t_hands t_fault t_persons t_law t_bellSet t_readAt t_readLaw t_readMany y14.1 y14.2.1 y14.2.2.1 t_readings y14.2.2.2.1 y14.2.2.2.2.1 y14.2.2.2.2.2.1 t_traceNow t_kindOf t_comes t_wants t_runs y14.2.2.2.2.2.2.1 y14.2.2.2.2.2.2.2 t_readingOf t_readingAt)) (va_runV (As := [.int x2, .int x3]) (rest := []) ⟨hx, hb, hml, hown, hts⟩ (c_Mo_tryBells l D cI cJ cS q_t q_t_kindOf q_t_comes q_t_wants q_t_runs q_t_readKind q_t_readComes q_t_readWants q_t_queueNow q_t_servedAt q_t_comesWas q_t_readingOf q_t_readingAt q_t_sheetSize q_t_sheetLane q_t_sheet q_t_hands t_fault t_persons t_law t_bellSet t_readAt t_readLaw t_readMany t_queueMany t_servedNow t_doneAt t_readings t_whichMany t_whichOne t_whichTwo t_traceNow t_kindOf t_comes t_wants t_runs t_queueNow t_servedAt t_readingOf t_readingAt x2 x3 y14 h15 _) (cwV 2 hts gX9_which_X9_tryBells rfl rfl rfl (by decide +kernel) ⟨(Nat.le_of_ble_eq_true rfl), (Nat.le_of_ble_eq_true rfl)⟩) (pre_V hK hP hD [0, 1, 2, 3, 4, 5, 6, 7, 8] rfl rfl rfl rfl) rfl rfl hl.1 rfl (lv_room (Nat.le_of_ble_eq_true rfl)) dX9_which_91 ⟨Nat.zero_le _, Nat.zero_le _⟩) hP hD hS hA [0, 1, 2, 3, 4, 5, 6, 7, 8] [] [0, 1, 2, 3, 4, 5, 6, 7, 8] rfl rfl rfl (by decide) rfl rfl (fun H locs hP hD hS => ?_)
          obtain ⟨y16, ey16⟩ : ∃ y : Int32, y = x3 + 1 := ⟨_, rfl⟩
          have hM := s_lt hM y16 ey16
          refine lv_iinc (v := y16) (lv' := [(3, .int y16), (0, .ref q_t), (1, .int p_q), (2, .int x2)]) hx hb dX9_which_94 hl (k := 3) rfl (by rw [ey16]; rfl) (Nat.le_of_ble_eq_true rfl) rfl (fun ls hl => ?_)
          refine lv_goto (tgt := 82) hx hb dX9_which_97 (by decide) ?_
          exact ih.2 x2 y16 y14.1 y14.2.1 y14.2.2.1 y14.2.2.2.1 y14.2.2.2.2.1 y14.2.2.2.2.2.1 y14.2.2.2.2.2.2.1 y14.2.2.2.2.2.2.2 (s_jp hM) _ _ hP hD hS _ (lv_sub hl [1, 2, 3, 0] rfl)
  have J72 : ∀ (x2 : Int32) (t_queueMany : Int32) (t_servedNow : Int32) (t_doneAt : Int32) (t_whichMany : Int32) (t_whichOne : Int32) (t_whichTwo : Int32) (t_queueNow : Nat → Int32) (t_servedAt : Nat → Int32), Mo_which_l72 p_q t_persons t_law t_readings t_kindOf t_comes t_wants t_runs t_readingOf t_readingAt x2 t_queueMany t_servedNow t_doneAt t_whichMany t_whichOne t_whichTwo t_queueNow t_servedAt = some o → ∀ (H : Heap) (locs : List Loc), va_P D vwCl (w_Mo_which cI cJ cS q_t q_t_kindOf q_t_comes q_t_wants q_t_runs q_t_readKind q_t_readComes q_t_readWants q_t_queueNow q_t_servedAt q_t_comesWas q_t_readingOf q_t_readingAt q_t_sheetSize q_t_sheetLane q_t_sheet q_t_hands t_fault t_persons t_law t_bellSet t_readAt t_readLaw t_readMany t_queueMany t_servedNow t_doneAt t_readings t_whichMany t_whichOne t_whichTwo t_traceNow t_kindOf t_comes t_wants t_runs t_queueNow t_servedAt t_readingOf t_readingAt) H → va_D A (w_Mo_which cI cJ cS q_t q_t_kindOf q_t_comes q_t_wants q_t_runs q_t_readKind q_t_readComes q_t_readWants q_t_queueNow q_t_servedAt q_t_comesWas q_t_readingOf q_t_readingAt q_t_sheetSize q_t_sheetLane q_t_sheet q_t_hands t_fault t_persons t_law t_bellSet t_readAt t_readLaw t_readMany t_queueMany t_servedNow t_doneAt t_readings t_whichMany t_whichOne t_whichTwo t_traceNow t_kindOf t_comes t_wants t_runs t_queueNow t_servedAt t_readingOf t_readingAt) → va_S A s.heap H locs → ∀ ls : Array Slot, lv_has ls 4 [(0, .ref q_t), (1, .int p_q), (2, .int x2)] → W p l e (headSpec wsX9_which rm_Mo_which).room s m args below meth c H locs 0 0 (MQ below (CQi D (w_Mo_which cI cJ cS q_t q_t_kindOf q_t_comes q_t_wants q_t_runs q_t_readKind q_t_readComes q_t_readWants q_t_queueNow q_t_servedAt q_t_comesWas q_t_readingOf q_t_readingAt q_t_sheetSize q_t_sheetLane q_t_sheet q_t_hands t_fault t_persons t_law t_bellSet t_readAt t_readLaw t_readMany o.2.1 o.2.2.1 o.2.2.2.1 t_readings o.2.2.2.2.1 o.2.2.2.2.2.1 o.2.2.2.2.2.2.1 t_traceNow t_kindOf t_comes t_wants t_runs o.2.2.2.2.2.2.2.1 o.2.2.2.2.2.2.2.2 t_readingOf t_readingAt) A o.1) args s 0 0 A) (F0 m 72 ls []) := by
    intro x2 t_queueMany t_servedNow t_doneAt t_whichMany t_whichOne t_whichTwo t_queueNow t_servedAt hM
    unfold Mo_which_l72 at hM
    obtain ⟨n0, hM⟩ := fin_some hM
    exact (L72 n0).1 x2 t_queueMany t_servedNow t_doneAt t_whichMany t_whichOne t_whichTwo t_queueNow t_servedAt hM
  have J82 : ∀ (x2 : Int32) (x3 : Int32) (t_queueMany : Int32) (t_servedNow : Int32) (t_doneAt : Int32) (t_whichMany : Int32) (t_whichOne : Int32) (t_whichTwo : Int32) (t_queueNow : Nat → Int32) (t_servedAt : Nat → Int32), Mo_which_l82 p_q t_persons t_law t_readings t_kindOf t_comes t_wants t_runs t_readingOf t_readingAt x2 x3 t_queueMany t_servedNow t_doneAt t_whichMany t_whichOne t_whichTwo t_queueNow t_servedAt = some o → ∀ (H : Heap) (locs : List Loc), va_P D vwCl (w_Mo_which cI cJ cS q_t q_t_kindOf q_t_comes q_t_wants q_t_runs q_t_readKind q_t_readComes q_t_readWants q_t_queueNow q_t_servedAt q_t_comesWas q_t_readingOf q_t_readingAt q_t_sheetSize q_t_sheetLane q_t_sheet q_t_hands t_fault t_persons t_law t_bellSet t_readAt t_readLaw t_readMany t_queueMany t_servedNow t_doneAt t_readings t_whichMany t_whichOne t_whichTwo t_traceNow t_kindOf t_comes t_wants t_runs t_queueNow t_servedAt t_readingOf t_readingAt) H → va_D A (w_Mo_which cI cJ cS q_t q_t_kindOf q_t_comes q_t_wants q_t_runs q_t_readKind q_t_readComes q_t_readWants q_t_queueNow q_t_servedAt q_t_comesWas q_t_readingOf q_t_readingAt q_t_sheetSize q_t_sheetLane q_t_sheet q_t_hands t_fault t_persons t_law t_bellSet t_readAt t_readLaw t_readMany t_queueMany t_servedNow t_doneAt t_readings t_whichMany t_whichOne t_whichTwo t_traceNow t_kindOf t_comes t_wants t_runs t_queueNow t_servedAt t_readingOf t_readingAt) → va_S A s.heap H locs → ∀ ls : Array Slot, lv_has ls 4 [(0, .ref q_t), (1, .int p_q), (2, .int x2), (3, .int x3)] → W p l e (headSpec wsX9_which rm_Mo_which).room s m args below meth c H locs 0 0 (MQ below (CQi D (w_Mo_which cI cJ cS q_t q_t_kindOf q_t_comes q_t_wants q_t_runs q_t_readKind q_t_readComes q_t_readWants q_t_queueNow q_t_servedAt q_t_comesWas q_t_readingOf q_t_readingAt q_t_sheetSize q_t_sheetLane q_t_sheet q_t_hands t_fault t_persons t_law t_bellSet t_readAt t_readLaw t_readMany o.2.1 o.2.2.1 o.2.2.2.1 t_readings o.2.2.2.2.1 o.2.2.2.2.2.1 o.2.2.2.2.2.2.1 t_traceNow t_kindOf t_comes t_wants t_runs o.2.2.2.2.2.2.2.1 o.2.2.2.2.2.2.2.2 t_readingOf t_readingAt) A o.1) args s 0 0 A) (F0 m 82 ls []) := by
    intro x2 x3 t_queueMany t_servedNow t_doneAt t_whichMany t_whichOne t_whichTwo t_queueNow t_servedAt hM
    unfold Mo_which_l82 at hM
    obtain ⟨n0, hM⟩ := fin_some hM
    exact (L72 n0).2 x2 x3 t_queueMany t_servedNow t_doneAt t_whichMany t_whichOne t_whichTwo t_queueNow t_servedAt hM
  have L51 : ∀ n : Nat, (∀ (x2 : Int32) (t_queueMany : Int32) (t_servedNow : Int32) (t_doneAt : Int32) (t_whichMany : Int32) (t_whichOne : Int32) (t_whichTwo : Int32) (t_queueNow : Nat → Int32) (t_servedAt : Nat → Int32), itr (Mo_which_s51 p_q t_persons t_law t_readings t_kindOf t_comes t_wants t_runs t_readingOf t_readingAt) n (x2, t_queueMany, t_servedNow, t_doneAt, t_whichMany, t_whichOne, t_whichTwo, t_queueNow, t_servedAt) = some o → ∀ (H : Heap) (locs : List Loc), va_P D vwCl (w_Mo_which cI cJ cS q_t q_t_kindOf q_t_comes q_t_wants q_t_runs q_t_readKind q_t_readComes q_t_readWants q_t_queueNow q_t_servedAt q_t_comesWas q_t_readingOf q_t_readingAt q_t_sheetSize q_t_sheetLane q_t_sheet q_t_hands t_fault t_persons t_law t_bellSet t_readAt t_readLaw t_readMany t_queueMany t_servedNow t_doneAt t_readings t_whichMany t_whichOne t_whichTwo t_traceNow t_kindOf t_comes t_wants t_runs t_queueNow t_servedAt t_readingOf t_readingAt) H → va_D A (w_Mo_which cI cJ cS q_t q_t_kindOf q_t_comes q_t_wants q_t_runs q_t_readKind q_t_readComes q_t_readWants q_t_queueNow q_t_servedAt q_t_comesWas q_t_readingOf q_t_readingAt q_t_sheetSize q_t_sheetLane q_t_sheet q_t_hands t_fault t_persons t_law t_bellSet t_readAt t_readLaw t_readMany t_queueMany t_servedNow t_doneAt t_readings t_whichMany t_whichOne t_whichTwo t_traceNow t_kindOf t_comes t_wants t_runs t_queueNow t_servedAt t_readingOf t_readingAt) → va_S A s.heap H locs → ∀ ls : Array Slot, lv_has ls 4 [(0, .ref q_t), (1, .int p_q), (2, .int x2)] → W p l e (headSpec wsX9_which rm_Mo_which).room s m args below meth c H locs 0 0 (MQ below (CQi D (w_Mo_which cI cJ cS q_t q_t_kindOf q_t_comes q_t_wants q_t_runs q_t_readKind q_t_readComes q_t_readWants q_t_queueNow q_t_servedAt q_t_comesWas q_t_readingOf q_t_readingAt q_t_sheetSize q_t_sheetLane q_t_sheet q_t_hands t_fault t_persons t_law t_bellSet t_readAt t_readLaw t_readMany o.2.1 o.2.2.1 o.2.2.2.1 t_readings o.2.2.2.2.1 o.2.2.2.2.2.1 o.2.2.2.2.2.2.1 t_traceNow t_kindOf t_comes t_wants t_runs o.2.2.2.2.2.2.2.1 o.2.2.2.2.2.2.2.2 t_readingOf t_readingAt) A o.1) args s 0 0 A) (F0 m 51 ls [])) := by
    intro n
    induction n with
    | zero => exact fun _ _ _ _ _ _ _ _ _ hM => (itr_0 hM).elim
    | succ n ih =>
      intro x2 t_queueMany t_servedNow t_doneAt t_whichMany t_whichOne t_whichTwo t_queueNow t_servedAt hM H locs hP hD hS ls hl
      have hM : (Mo_which_b51 p_q t_persons t_law t_readings t_kindOf t_comes t_wants t_runs t_readingOf t_readingAt x2 t_queueMany t_servedNow t_doneAt t_whichMany t_whichOne t_whichTwo t_queueNow t_servedAt).bind (sg (itr (Mo_which_s51 p_q t_persons t_law t_readings t_kindOf t_comes t_wants t_runs t_readingOf t_readingAt) n)) = some o := hM
      unfold Mo_which_b51 at hM
      refine lv_iload_n hx hb dX9_which_51 rfl (lv_at hl 2 rfl) ?_
      refine lv_bipush (v := 60) hx hb dX9_which_52 (by decide) ?_
      refine lv_icmp_ge (tgt := 70) hx hb dX9_which_54 (by decide) (fun c7 => ?_) (fun c7 => ?_)
      · have hM := (s_if hM).1 c7
        refine lv_iconst (v := 0) hx hb dX9_which_70 (by decide) ?_
        refine lv_istore_n (lv' := [(2, .int 0), (0, .ref q_t), (1, .int p_q)]) hx hb dX9_which_71 rfl hl (Nat.le_of_ble_eq_true rfl) rfl (fun ls hl => ?_)
        exact J72 0 t_queueMany t_servedNow t_doneAt t_whichMany t_whichOne t_whichTwo t_queueNow t_servedAt (s_ex hM) _ _ hP hD hS _ (lv_sub hl [1, 2, 0] rfl)
      · have hM := (s_if hM).2 c7
        refine lv_aload_n hx hb dX9_which_57 rfl (lv_at hl 0 rfl) ?_
        refine lv_iload_n hx hb dX9_which_58 rfl (lv_at hl 2 rfl) ?_
        refine lv_bipush (v := (-9)) hx hb dX9_which_59 (by decide) ?_
        obtain ⟨y17, h18, hM⟩ := s_bd hM
        refine af_v (ws2 := (w_Mo_which cI cJ cS q_t q_t_kindOf q_t_comes q_t_wants q_t_runs q_t_readKind q_t_readComes q_t_readWants q_t_queueNow q_t_servedAt q_t_comesWas q_t_readingOf q_t_readingAt q_t_sheetSize q_t_sheetLane q_t_sheet q_t_hands t_fault t_persons t_law t_bellSet t_readAt t_readLaw t_readMany y17.1 y17.2.1 y17.2.2.1 t_readings y17.2.2.2.1 y17.2.2.2.2.1 y17.2.2.2.2.2.1 t_traceNow t_kindOf t_comes t_wants t_runs y17.2.2.2.2.2.2.1 y17.2.2.2.2.2.2.2 t_readingOf t_readingAt)) (va_runV (As := [.int x2, .int (-9)]) (rest := []) ⟨hx, hb, hml, hown, hts⟩ (c_Mo_tryBells l D cI cJ cS q_t q_t_kindOf q_t_comes q_t_wants q_t_runs q_t_readKind q_t_readComes q_t_readWants q_t_queueNow q_t_servedAt q_t_comesWas q_t_readingOf q_t_readingAt q_t_sheetSize q_t_sheetLane q_t_sheet q_t_hands t_fault t_persons t_law t_bellSet t_readAt t_readLaw t_readMany t_queueMany t_servedNow t_doneAt t_readings t_whichMany t_whichOne t_whichTwo t_traceNow t_kindOf t_comes t_wants t_runs t_queueNow t_servedAt t_readingOf t_readingAt x2 (-9) y17 h18 _) (cwV 2 hts gX9_which_X9_tryBells rfl rfl rfl (by decide +kernel) ⟨(Nat.le_of_ble_eq_true rfl), (Nat.le_of_ble_eq_true rfl)⟩) (pre_V hK hP hD [0, 1, 2, 3, 4, 5, 6, 7, 8] rfl rfl rfl rfl) rfl rfl hl.1 rfl (lv_room (Nat.le_of_ble_eq_true rfl)) dX9_which_61 ⟨Nat.zero_le _, Nat.zero_le _⟩) hP hD hS hA [0, 1, 2, 3, 4, 5, 6, 7, 8] [] [0, 1, 2, 3, 4, 5, 6, 7, 8] rfl rfl rfl (by decide) rfl rfl (fun H locs hP hD hS => ?_)
        obtain ⟨y19, ey19⟩ : ∃ y : Int32, y = x2 + 1 := ⟨_, rfl⟩
        have hM := s_lt hM y19 ey19
        refine lv_iinc (v := y19) (lv' := [(2, .int y19), (0, .ref q_t), (1, .int p_q)]) hx hb dX9_which_64 hl (k := 2) rfl (by rw [ey19]; rfl) (Nat.le_of_ble_eq_true rfl) rfl (fun ls hl => ?_)
        refine lv_goto (tgt := 51) hx hb dX9_which_67 (by decide) ?_
        exact ih y19 y17.1 y17.2.1 y17.2.2.1 y17.2.2.2.1 y17.2.2.2.2.1 y17.2.2.2.2.2.1 y17.2.2.2.2.2.2.1 y17.2.2.2.2.2.2.2 (s_jp hM) _ _ hP hD hS _ (lv_sub hl [1, 2, 0] rfl)
  have J51 : ∀ (x2 : Int32) (t_queueMany : Int32) (t_servedNow : Int32) (t_doneAt : Int32) (t_whichMany : Int32) (t_whichOne : Int32) (t_whichTwo : Int32) (t_queueNow : Nat → Int32) (t_servedAt : Nat → Int32), Mo_which_l51 p_q t_persons t_law t_readings t_kindOf t_comes t_wants t_runs t_readingOf t_readingAt x2 t_queueMany t_servedNow t_doneAt t_whichMany t_whichOne t_whichTwo t_queueNow t_servedAt = some o → ∀ (H : Heap) (locs : List Loc), va_P D vwCl (w_Mo_which cI cJ cS q_t q_t_kindOf q_t_comes q_t_wants q_t_runs q_t_readKind q_t_readComes q_t_readWants q_t_queueNow q_t_servedAt q_t_comesWas q_t_readingOf q_t_readingAt q_t_sheetSize q_t_sheetLane q_t_sheet q_t_hands t_fault t_persons t_law t_bellSet t_readAt t_readLaw t_readMany t_queueMany t_servedNow t_doneAt t_readings t_whichMany t_whichOne t_whichTwo t_traceNow t_kindOf t_comes t_wants t_runs t_queueNow t_servedAt t_readingOf t_readingAt) H → va_D A (w_Mo_which cI cJ cS q_t q_t_kindOf q_t_comes q_t_wants q_t_runs q_t_readKind q_t_readComes q_t_readWants q_t_queueNow q_t_servedAt q_t_comesWas q_t_readingOf q_t_readingAt q_t_sheetSize q_t_sheetLane q_t_sheet q_t_hands t_fault t_persons t_law t_bellSet t_readAt t_readLaw t_readMany t_queueMany t_servedNow t_doneAt t_readings t_whichMany t_whichOne t_whichTwo t_traceNow t_kindOf t_comes t_wants t_runs t_queueNow t_servedAt t_readingOf t_readingAt) → va_S A s.heap H locs → ∀ ls : Array Slot, lv_has ls 4 [(0, .ref q_t), (1, .int p_q), (2, .int x2)] → W p l e (headSpec wsX9_which rm_Mo_which).room s m args below meth c H locs 0 0 (MQ below (CQi D (w_Mo_which cI cJ cS q_t q_t_kindOf q_t_comes q_t_wants q_t_runs q_t_readKind q_t_readComes q_t_readWants q_t_queueNow q_t_servedAt q_t_comesWas q_t_readingOf q_t_readingAt q_t_sheetSize q_t_sheetLane q_t_sheet q_t_hands t_fault t_persons t_law t_bellSet t_readAt t_readLaw t_readMany o.2.1 o.2.2.1 o.2.2.2.1 t_readings o.2.2.2.2.1 o.2.2.2.2.2.1 o.2.2.2.2.2.2.1 t_traceNow t_kindOf t_comes t_wants t_runs o.2.2.2.2.2.2.2.1 o.2.2.2.2.2.2.2.2 t_readingOf t_readingAt) A o.1) args s 0 0 A) (F0 m 51 ls []) := by
    intro x2 t_queueMany t_servedNow t_doneAt t_whichMany t_whichOne t_whichTwo t_queueNow t_servedAt hM
    unfold Mo_which_l51 at hM
    obtain ⟨n0, hM⟩ := fin_some hM
    exact (L51 n0) x2 t_queueMany t_servedNow t_doneAt t_whichMany t_whichOne t_whichTwo t_queueNow t_servedAt hM
  unfold Mo_which at hM
  refine lv_iload_n hx hb dX9_which_0 rfl (lv_at hl 1 rfl) ?_
  refine lv_i2l (v := p_q.toInt64) hx hb dX9_which_1 rfl ?_
  refine lv_ldc2 (v := (-1)) hx hb hown k0 dX9_which_2 ?_
  refine lv_lconst (v := 1) hx hb dX9_which_5 (by decide) ?_
  obtain ⟨y1, h2, hM⟩ := o_bd hM
  refine af_i (ws2 := (w_Mo_which cI cJ cS q_t q_t_kindOf q_t_comes q_t_wants q_t_runs q_t_readKind q_t_readComes q_t_readWants q_t_queueNow q_t_servedAt q_t_comesWas q_t_readingOf q_t_readingAt q_t_sheetSize q_t_sheetLane q_t_sheet q_t_hands t_fault t_persons t_law t_bellSet t_readAt t_readLaw t_readMany t_queueMany t_servedNow t_doneAt t_readings t_whichMany t_whichOne t_whichTwo t_traceNow t_kindOf t_comes t_wants t_runs t_queueNow t_servedAt t_readingOf t_readingAt)) (va_runS (As := [.long p_q.toInt64, .long (-1), .long 1]) (rest := []) ⟨hx, hb, hml, hown, hts⟩ (c_Mo_in l D cI cJ cS p_q.toInt64 (-1) 1 y1 h2 _) (va_cwS 3 hts gX9_which_X9_in rfl rfl rfl (by decide +kernel) ⟨(Nat.le_of_ble_eq_true rfl), (Nat.le_of_ble_eq_true rfl)⟩) (pre_S hK hP hD [] rfl rfl) rfl rfl hl.1 rfl (lv_room (Nat.le_of_ble_eq_true rfl)) dX9_which_6 ⟨Nat.zero_le _, Nat.zero_le _⟩) hP hD hS hA [] [0, 1, 2, 3, 4, 5, 6, 7, 8] [0, 1, 2, 3, 4, 5, 6, 7, 8] rfl rfl rfl (by decide) rfl rfl (fun H locs hP hD hS => ?_)
  refine lv_if_ne (tgt := 14) hx hb dX9_which_9 (by decide) (fun c3 => ?_) (fun c3 => ?_)
  · have hM := (o_if hM).2 c3
    refine lv_aload_n hx hb dX9_which_14 rfl (lv_at hl 0 rfl) ?_
    refine va_get (ci := 8) (v := .int t_persons) (C := RX9) (T := TX9) (N := 31) hx hb hts iX9 hown hK.1 hP 0 rfl rfl 1 (Nat.le_of_ble_eq_true rfl) k1 (fun _ h9 => h9) rfl dX9_which_15 ?_
    refine lv_if_ne (tgt := 24) hx hb dX9_which_18 (by decide) (fun c4 => ?_) (fun c4 => ?_)
    · have hM := (o_if hM).2 c4
      refine lv_aload_n hx hb dX9_which_24 rfl (lv_at hl 0 rfl) ?_
      refine lv_iconst (v := 0) hx hb dX9_which_25 (by decide) ?_
      refine va_put (ci := 8) (v := .int 0) (ty := .int) (C := RX9) (T := TX9) (N := 31) hx hb hts iX9 tyX9 tyX9_ok nmX9 hown hK.1 hP hD hS 0 rfl rfl 23 (Nat.le_of_ble_eq_true rfl) k2 (fun _ h9 => h9) rfl (tyX9_ok 23 (Nat.le_of_ble_eq_true rfl)) rfl rfl (Nat.le_of_ble_eq_true rfl) dX9_which_26 (fun H locs hP hD hS => ?_)
      have hP : va_P D vwCl (w_Mo_which cI cJ cS q_t q_t_kindOf q_t_comes q_t_wants q_t_runs q_t_readKind q_t_readComes q_t_readWants q_t_queueNow q_t_servedAt q_t_comesWas q_t_readingOf q_t_readingAt q_t_sheetSize q_t_sheetLane q_t_sheet q_t_hands t_fault t_persons t_law t_bellSet t_readAt t_readLaw t_readMany t_queueMany t_servedNow t_doneAt t_readings 0 t_whichOne t_whichTwo t_traceNow t_kindOf t_comes t_wants t_runs t_queueNow t_servedAt t_readingOf t_readingAt) H := hP
      have hD : va_D A (w_Mo_which cI cJ cS q_t q_t_kindOf q_t_comes q_t_wants q_t_runs q_t_readKind q_t_readComes q_t_readWants q_t_queueNow q_t_servedAt q_t_comesWas q_t_readingOf q_t_readingAt q_t_sheetSize q_t_sheetLane q_t_sheet q_t_hands t_fault t_persons t_law t_bellSet t_readAt t_readLaw t_readMany t_queueMany t_servedNow t_doneAt t_readings 0 t_whichOne t_whichTwo t_traceNow t_kindOf t_comes t_wants t_runs t_queueNow t_servedAt t_readingOf t_readingAt) := hD
      refine lv_aload_n hx hb dX9_which_29 rfl (lv_at hl 0 rfl) ?_
      refine lv_bipush (v := (-9)) hx hb dX9_which_30 (by decide) ?_
      refine va_put (ci := 8) (v := .int (-9)) (ty := .int) (C := RX9) (T := TX9) (N := 31) hx hb hts iX9 tyX9 tyX9_ok nmX9 hown hK.1 hP hD hS 0 rfl rfl 24 (Nat.le_of_ble_eq_true rfl) k3 (fun _ h9 => h9) rfl (tyX9_ok 24 (Nat.le_of_ble_eq_true rfl)) rfl rfl (Nat.le_of_ble_eq_true rfl) dX9_which_32 (fun H locs hP hD hS => ?_)
      have hP : va_P D vwCl (w_Mo_which cI cJ cS q_t q_t_kindOf q_t_comes q_t_wants q_t_runs q_t_readKind q_t_readComes q_t_readWants q_t_queueNow q_t_servedAt q_t_comesWas q_t_readingOf q_t_readingAt q_t_sheetSize q_t_sheetLane q_t_sheet q_t_hands t_fault t_persons t_law t_bellSet t_readAt t_readLaw t_readMany t_queueMany t_servedNow t_doneAt t_readings 0 (-9) t_whichTwo t_traceNow t_kindOf t_comes t_wants t_runs t_queueNow t_servedAt t_readingOf t_readingAt) H := hP
      have hD : va_D A (w_Mo_which cI cJ cS q_t q_t_kindOf q_t_comes q_t_wants q_t_runs q_t_readKind q_t_readComes q_t_readWants q_t_queueNow q_t_servedAt q_t_comesWas q_t_readingOf q_t_readingAt q_t_sheetSize q_t_sheetLane q_t_sheet q_t_hands t_fault t_persons t_law t_bellSet t_readAt t_readLaw t_readMany t_queueMany t_servedNow t_doneAt t_readings 0 (-9) t_whichTwo t_traceNow t_kindOf t_comes t_wants t_runs t_queueNow t_servedAt t_readingOf t_readingAt) := hD
      refine lv_aload_n hx hb dX9_which_35 rfl (lv_at hl 0 rfl) ?_
      refine lv_bipush (v := (-9)) hx hb dX9_which_36 (by decide) ?_
      refine va_put (ci := 8) (v := .int (-9)) (ty := .int) (C := RX9) (T := TX9) (N := 31) hx hb hts iX9 tyX9 tyX9_ok nmX9 hown hK.1 hP hD hS 0 rfl rfl 25 (Nat.le_of_ble_eq_true rfl) k4 (fun _ h9 => h9) rfl (tyX9_ok 25 (Nat.le_of_ble_eq_true rfl)) rfl rfl (Nat.le_of_ble_eq_true rfl) dX9_which_38 (fun H locs hP hD hS => ?_)
      have hP : va_P D vwCl (w_Mo_which cI cJ cS q_t q_t_kindOf q_t_comes q_t_wants q_t_runs q_t_readKind q_t_readComes q_t_readWants q_t_queueNow q_t_servedAt q_t_comesWas q_t_readingOf q_t_readingAt q_t_sheetSize q_t_sheetLane q_t_sheet q_t_hands t_fault t_persons t_law t_bellSet t_readAt t_readLaw t_readMany t_queueMany t_servedNow t_doneAt t_readings 0 (-9) (-9) t_traceNow t_kindOf t_comes t_wants t_runs t_queueNow t_servedAt t_readingOf t_readingAt) H := hP
      have hD : va_D A (w_Mo_which cI cJ cS q_t q_t_kindOf q_t_comes q_t_wants q_t_runs q_t_readKind q_t_readComes q_t_readWants q_t_queueNow q_t_servedAt q_t_comesWas q_t_readingOf q_t_readingAt q_t_sheetSize q_t_sheetLane q_t_sheet q_t_hands t_fault t_persons t_law t_bellSet t_readAt t_readLaw t_readMany t_queueMany t_servedNow t_doneAt t_readings 0 (-9) (-9) t_traceNow t_kindOf t_comes t_wants t_runs t_queueNow t_servedAt t_readingOf t_readingAt) := hD
      refine lv_aload_n hx hb dX9_which_41 rfl (lv_at hl 0 rfl) ?_
      refine lv_bipush (v := (-9)) hx hb dX9_which_42 (by decide) ?_
      refine lv_bipush (v := (-9)) hx hb dX9_which_44 (by decide) ?_
      obtain ⟨y5, h6, hM⟩ := o_bd hM
      refine af_v (ws2 := (w_Mo_which cI cJ cS q_t q_t_kindOf q_t_comes q_t_wants q_t_runs q_t_readKind q_t_readComes q_t_readWants q_t_queueNow q_t_servedAt q_t_comesWas q_t_readingOf q_t_readingAt q_t_sheetSize q_t_sheetLane q_t_sheet q_t_hands t_fault t_persons t_law t_bellSet t_readAt t_readLaw t_readMany y5.1 y5.2.1 y5.2.2.1 t_readings y5.2.2.2.1 y5.2.2.2.2.1 y5.2.2.2.2.2.1 t_traceNow t_kindOf t_comes t_wants t_runs y5.2.2.2.2.2.2.1 y5.2.2.2.2.2.2.2 t_readingOf t_readingAt)) (va_runV (As := [.int (-9), .int (-9)]) (rest := []) ⟨hx, hb, hml, hown, hts⟩ (c_Mo_tryBells l D cI cJ cS q_t q_t_kindOf q_t_comes q_t_wants q_t_runs q_t_readKind q_t_readComes q_t_readWants q_t_queueNow q_t_servedAt q_t_comesWas q_t_readingOf q_t_readingAt q_t_sheetSize q_t_sheetLane q_t_sheet q_t_hands t_fault t_persons t_law t_bellSet t_readAt t_readLaw t_readMany t_queueMany t_servedNow t_doneAt t_readings 0 (-9) (-9) t_traceNow t_kindOf t_comes t_wants t_runs t_queueNow t_servedAt t_readingOf t_readingAt (-9) (-9) y5 h6 _) (cwV 2 hts gX9_which_X9_tryBells rfl rfl rfl (by decide +kernel) ⟨(Nat.le_of_ble_eq_true rfl), (Nat.le_of_ble_eq_true rfl)⟩) (pre_V hK hP hD [0, 1, 2, 3, 4, 5, 6, 7, 8] rfl rfl rfl rfl) rfl rfl hl.1 rfl (lv_room (Nat.le_of_ble_eq_true rfl)) dX9_which_46 ⟨Nat.zero_le _, Nat.zero_le _⟩) hP hD hS hA [0, 1, 2, 3, 4, 5, 6, 7, 8] [] [0, 1, 2, 3, 4, 5, 6, 7, 8] rfl rfl rfl (by decide) rfl rfl (fun H locs hP hD hS => ?_)
      refine lv_iconst (v := 0) hx hb dX9_which_49 (by decide) ?_
      refine lv_istore_n (lv' := [(2, .int 0), (0, .ref q_t), (1, .int p_q)]) hx hb dX9_which_50 rfl hl (Nat.le_of_ble_eq_true rfl) rfl (fun ls hl => ?_)
      exact J51 0 y5.1 y5.2.1 y5.2.2.1 y5.2.2.2.1 y5.2.2.2.2.1 y5.2.2.2.2.2.1 y5.2.2.2.2.2.2.1 y5.2.2.2.2.2.2.2 hM _ _ hP hD hS _ (lv_sub hl [1, 2, 0] rfl)
    · have hM := (o_if hM).1 c4
      refine lv_bipush (v := (-3)) hx hb dX9_which_21 (by decide) ?_
      have hM := (Option.some.inj hM)
      subst hM
      exact rt_i hx hb hr hlocks hP hD hS dX9_which_23
  · have hM := (o_if hM).1 c3
    refine lv_iconst (v := (-1)) hx hb dX9_which_12 (by decide) ?_
    have hM := (Option.some.inj hM)
    subst hM
    exact rt_i hx hb hr hlocks hP hD hS dX9_which_13
/-! ===== TurnQueueModel.noon ===== -/
abbrev w_Mo_noon (cI cJ cS : ClassId) (q_t : Nat) (q_t_kindOf : Nat) (q_t_comes : Nat) (q_t_wants : Nat) (q_t_runs : Nat) (q_t_readKind : Nat) (q_t_readComes : Nat) (q_t_readWants : Nat) (q_t_queueNow : Nat) (q_t_servedAt : Nat) (q_t_comesWas : Nat) (q_t_readingOf : Nat) (q_t_readingAt : Nat) (q_t_sheetSize : Nat) (q_t_sheetLane : Nat) (q_t_sheet : Nat) (q_t_hands : Nat) (t_fault : Int32) (t_persons : Int32) (t_law : Int32) (t_bellSet : Int64) (t_readAt : Int32) (t_readLaw : Int32) (t_readMany : Int32) (t_queueMany : Int32) (t_servedNow : Int32) (t_doneAt : Int32) (t_readings : Int32) (t_whichMany : Int32) (t_whichOne : Int32) (t_whichTwo : Int32) (t_traceNow : Int32) (t_kindOf : Nat → Int32) (t_comes : Nat → Int32) (t_wants : Nat → Int32) (t_runs : Nat → Int32) (t_queueNow : Nat → Int32) (t_servedAt : Nat → Int32) : va_W := [(q_t, .inr (8, [.int t_fault, .int t_persons, .int t_law, .ref q_t_kindOf, .ref q_t_comes, .ref q_t_wants, .ref q_t_runs, .long t_bellSet, .int t_readAt, .int t_readLaw, .int t_readMany, .ref q_t_readKind, .ref q_t_readComes, .ref q_t_readWants, .ref q_t_queueNow, .int t_queueMany, .int t_servedNow, .int t_doneAt, .ref q_t_servedAt, .ref q_t_comesWas, .int t_readings, .ref q_t_readingOf, .ref q_t_readingAt, .int t_whichMany, .int t_whichOne, .int t_whichTwo, .ref q_t_sheetSize, .ref q_t_sheetLane, .ref q_t_sheet, .ref q_t_hands, .int t_traceNow])), (q_t_kindOf, ar cI 7 t_kindOf), (q_t_comes, ar cI 7 t_comes), (q_t_wants, ar cI 7 t_wants), (q_t_runs, ar cI 7 t_runs), (q_t_queueNow, ar cI 7 t_queueNow), (q_t_servedAt, ar cI 7 t_servedAt)]
abbrev rm_Mo_noon : Room := { frames := 4, cells := 0, slots := 0, locals := 94 }
noncomputable def Mo_noon_j53 (p_minute : Int32) (t_persons : Int32) (t_law : Int32) (t_bellSet : Int64) (t_kindOf : Nat → Int32) (t_comes : Nat → Int32) (t_wants : Nat → Int32) (t_runs : Nat → Int32) (x2 : Int32) (x3 : Int32) (s0 : Int32) (t_queueMany : Int32) (t_servedNow : Int32) (t_doneAt : Int32) (t_queueNow : Nat → Int32) (t_servedAt : Nat → Int32) : Option ((Nat × Int32 × Int32 × Int32 × Int32 × Int32 × Int32 × Int32 × (Nat → Int32) × (Nat → Int32)) ⊕ (Int32 × Int32 × Int32 × Int32 × (Nat → Int32) × (Nat → Int32))) :=
  if s0 = 0 then
    some (.inl (1, x2, x3, s0, 0, t_queueMany, t_servedNow, t_doneAt, t_queueNow, t_servedAt))
  else
    (Mo_goDay x3 t_bellSet t_persons t_law t_kindOf t_comes t_wants t_runs t_queueMany t_servedNow t_doneAt t_queueNow t_servedAt).bind fun y14 =>
    some (.inl (1, x2, x3, s0, 0, y14.1, y14.2.1, y14.2.2.1, y14.2.2.2.1, y14.2.2.2.2))
noncomputable def Mo_noon_j119 (p_minute : Int32) (t_persons : Int32) (t_law : Int32) (t_bellSet : Int64) (t_kindOf : Nat → Int32) (t_comes : Nat → Int32) (t_wants : Nat → Int32) (t_runs : Nat → Int32) (x2 : Int32) (x3 : Int32) (x4 : Int32) (t_queueMany : Int32) (t_servedNow : Int32) (t_doneAt : Int32) (t_queueNow : Nat → Int32) (t_servedAt : Nat → Int32) : Option ((Nat × Int32 × Int32 × Int32 × Int32 × Int32 × Int32 × Int32 × (Nat → Int32) × (Nat → Int32)) ⊕ (Int32 × Int32 × Int32 × Int32 × (Nat → Int32) × (Nat → Int32))) :=
  if x4 = 0 then
    lt (x3 + 1) fun y18 =>
    some (.inl (0, x2, y18, 0, 0, t_queueMany, t_servedNow, t_doneAt, t_queueNow, t_servedAt))
  else
    lt (x3 + 1) fun y19 =>
    some (.inl (0, x3, y19, 0, 0, t_queueMany, t_servedNow, t_doneAt, t_queueNow, t_servedAt))
noncomputable def Mo_noon_b29 (p_minute : Int32) (t_persons : Int32) (t_law : Int32) (t_bellSet : Int64) (t_kindOf : Nat → Int32) (t_comes : Nat → Int32) (t_wants : Nat → Int32) (t_runs : Nat → Int32) (x2 : Int32) (x3 : Int32) (t_queueMany : Int32) (t_servedNow : Int32) (t_doneAt : Int32) (t_queueNow : Nat → Int32) (t_servedAt : Nat → Int32) : Option ((Nat × Int32 × Int32 × Int32 × Int32 × Int32 × Int32 × Int32 × (Nat → Int32) × (Nat → Int32)) ⊕ (Int32 × Int32 × Int32 × Int32 × (Nat → Int32) × (Nat → Int32))) :=
  (Mo_all t_persons).bind fun y5 =>
  if y5 < x3 then
    some (.inr (x2, t_queueMany, t_servedNow, t_doneAt, t_queueNow, t_servedAt))
  else
    (Mo_bits x3).bind fun y8 =>
    (Mo_bits x2).bind fun y10 =>
    if y8 ≤ y10 then
      Mo_noon_j53 p_minute t_persons t_law t_bellSet t_kindOf t_comes t_wants t_runs x2 x3 0 t_queueMany t_servedNow t_doneAt t_queueNow t_servedAt
    else
      Mo_noon_j53 p_minute t_persons t_law t_bellSet t_kindOf t_comes t_wants t_runs x2 x3 1 t_queueMany t_servedNow t_doneAt t_queueNow t_servedAt
noncomputable def Mo_noon_b72 (p_minute : Int32) (t_persons : Int32) (t_law : Int32) (t_bellSet : Int64) (t_kindOf : Nat → Int32) (t_comes : Nat → Int32) (t_wants : Nat → Int32) (t_runs : Nat → Int32) (x2 : Int32) (x3 : Int32) (x4 : Int32) (x5 : Int32) (t_queueMany : Int32) (t_servedNow : Int32) (t_doneAt : Int32) (t_queueNow : Nat → Int32) (t_servedAt : Nat → Int32) : Option ((Nat × Int32 × Int32 × Int32 × Int32 × Int32 × Int32 × Int32 × (Nat → Int32) × (Nat → Int32)) ⊕ (Int32 × Int32 × Int32 × Int32 × (Nat → Int32) × (Nat → Int32))) :=
  if t_persons ≤ x5 then
    Mo_noon_j119 p_minute t_persons t_law t_bellSet t_kindOf t_comes t_wants t_runs x2 x3 x4 t_queueMany t_servedNow t_doneAt t_queueNow t_servedAt
  else
    if x4 = 0 then
      Mo_noon_j119 p_minute t_persons t_law t_bellSet t_kindOf t_comes t_wants t_runs x2 x3 x4 t_queueMany t_servedNow t_doneAt t_queueNow t_servedAt
    else
      if ((x3 >>> (x5 &&& 31)) &&& 1) = 0 then
        lt (x5 + 1) fun y22 =>
        some (.inl (1, x2, x3, 1, y22, t_queueMany, t_servedNow, t_doneAt, t_queueNow, t_servedAt))
      else
        if ck x5 7 = true then
          if p_minute < (t_servedAt x5.toNatClampNeg) then
            lt (x5 + 1) fun y25 =>
            some (.inl (1, x2, x3, 0, y25, t_queueMany, t_servedNow, t_doneAt, t_queueNow, t_servedAt))
          else
            lt (x5 + 1) fun y26 =>
            some (.inl (1, x2, x3, 1, y26, t_queueMany, t_servedNow, t_doneAt, t_queueNow, t_servedAt))
        else none
noncomputable def Mo_noon_s29 (p_minute : Int32) (t_persons : Int32) (t_law : Int32) (t_bellSet : Int64) (t_kindOf : Nat → Int32) (t_comes : Nat → Int32) (t_wants : Nat → Int32) (t_runs : Nat → Int32) : (Nat × Int32 × Int32 × Int32 × Int32 × Int32 × Int32 × Int32 × (Nat → Int32) × (Nat → Int32)) → Option ((Nat × Int32 × Int32 × Int32 × Int32 × Int32 × Int32 × Int32 × (Nat → Int32) × (Nat → Int32)) ⊕ (Int32 × Int32 × Int32 × Int32 × (Nat → Int32) × (Nat → Int32))) := fun x => match x.1 with
  | 0 => Mo_noon_b29 p_minute t_persons t_law t_bellSet t_kindOf t_comes t_wants t_runs x.2.1 x.2.2.1 x.2.2.2.2.2.1 x.2.2.2.2.2.2.1 x.2.2.2.2.2.2.2.1 x.2.2.2.2.2.2.2.2.1 x.2.2.2.2.2.2.2.2.2
  | 1 => Mo_noon_b72 p_minute t_persons t_law t_bellSet t_kindOf t_comes t_wants t_runs x.2.1 x.2.2.1 x.2.2.2.1 x.2.2.2.2.1 x.2.2.2.2.2.1 x.2.2.2.2.2.2.1 x.2.2.2.2.2.2.2.1 x.2.2.2.2.2.2.2.2.1 x.2.2.2.2.2.2.2.2.2
  | _ => none
noncomputable def Mo_noon_l29 (p_minute : Int32) (t_persons : Int32) (t_law : Int32) (t_bellSet : Int64) (t_kindOf : Nat → Int32) (t_comes : Nat → Int32) (t_wants : Nat → Int32) (t_runs : Nat → Int32) (x2 : Int32) (x3 : Int32) (t_queueMany : Int32) (t_servedNow : Int32) (t_doneAt : Int32) (t_queueNow : Nat → Int32) (t_servedAt : Nat → Int32) : Option (Int32 × Int32 × Int32 × Int32 × (Nat → Int32) × (Nat → Int32)) := fin (Mo_noon_s29 p_minute t_persons t_law t_bellSet t_kindOf t_comes t_wants t_runs) (0, x2, x3, 0, 0, t_queueMany, t_servedNow, t_doneAt, t_queueNow, t_servedAt)
noncomputable def Mo_noon_l72 (p_minute : Int32) (t_persons : Int32) (t_law : Int32) (t_bellSet : Int64) (t_kindOf : Nat → Int32) (t_comes : Nat → Int32) (t_wants : Nat → Int32) (t_runs : Nat → Int32) (x2 : Int32) (x3 : Int32) (x4 : Int32) (x5 : Int32) (t_queueMany : Int32) (t_servedNow : Int32) (t_doneAt : Int32) (t_queueNow : Nat → Int32) (t_servedAt : Nat → Int32) : Option (Int32 × Int32 × Int32 × Int32 × (Nat → Int32) × (Nat → Int32)) := fin (Mo_noon_s29 p_minute t_persons t_law t_bellSet t_kindOf t_comes t_wants t_runs) (1, x2, x3, x4, x5, t_queueMany, t_servedNow, t_doneAt, t_queueNow, t_servedAt)
noncomputable def Mo_noon (p_minute : Int32) (t_persons : Int32) (t_law : Int32) (t_bellSet : Int64) (t_kindOf : Nat → Int32) (t_comes : Nat → Int32) (t_wants : Nat → Int32) (t_runs : Nat → Int32) (t_queueMany : Int32) (t_servedNow : Int32) (t_doneAt : Int32) (t_queueNow : Nat → Int32) (t_servedAt : Nat → Int32) : Option (Int32 × Int32 × Int32 × Int32 × (Nat → Int32) × (Nat → Int32)) :=
  (Mo_in p_minute.toInt64 0 199).bind fun y1 =>
  if y1 = 0 then
    some ((-2), t_queueMany, t_servedNow, t_doneAt, t_queueNow, t_servedAt)
  else
    if t_persons = 0 then
      some ((-3), t_queueMany, t_servedNow, t_doneAt, t_queueNow, t_servedAt)
    else
      Mo_noon_l29 p_minute t_persons t_law t_bellSet t_kindOf t_comes t_wants t_runs 0 1 t_queueMany t_servedNow t_doneAt t_queueNow t_servedAt
theorem Mo_noon_l29_eq (p_minute : Int32) (t_persons : Int32) (t_law : Int32) (t_bellSet : Int64) (t_kindOf : Nat → Int32) (t_comes : Nat → Int32) (t_wants : Nat → Int32) (t_runs : Nat → Int32) (x2 : Int32) (x3 : Int32) (t_queueMany : Int32) (t_servedNow : Int32) (t_doneAt : Int32) (t_queueNow : Nat → Int32) (t_servedAt : Nat → Int32) : Mo_noon_l29 p_minute t_persons t_law t_bellSet t_kindOf t_comes t_wants t_runs x2 x3 t_queueMany t_servedNow t_doneAt t_queueNow t_servedAt = (Mo_noon_b29 p_minute t_persons t_law t_bellSet t_kindOf t_comes t_wants t_runs x2 x3 t_queueMany t_servedNow t_doneAt t_queueNow t_servedAt).bind (sg (fin (Mo_noon_s29 p_minute t_persons t_law t_bellSet t_kindOf t_comes t_wants t_runs))) := by
  unfold Mo_noon_l29
  exact fin_eq _ _
theorem Mo_noon_l29_fd (p_minute : Int32) (t_persons : Int32) (t_law : Int32) (t_bellSet : Int64) (t_kindOf : Nat → Int32) (t_comes : Nat → Int32) (t_wants : Nat → Int32) (t_runs : Nat → Int32) (x2 : Int32) (x3 : Int32) (t_queueMany : Int32) (t_servedNow : Int32) (t_doneAt : Int32) (t_queueNow : Nat → Int32) (t_servedAt : Nat → Int32) : fin (Mo_noon_s29 p_minute t_persons t_law t_bellSet t_kindOf t_comes t_wants t_runs) (0, x2, x3, 0, 0, t_queueMany, t_servedNow, t_doneAt, t_queueNow, t_servedAt) = Mo_noon_l29 p_minute t_persons t_law t_bellSet t_kindOf t_comes t_wants t_runs x2 x3 t_queueMany t_servedNow t_doneAt t_queueNow t_servedAt := rfl
theorem Mo_noon_l72_eq (p_minute : Int32) (t_persons : Int32) (t_law : Int32) (t_bellSet : Int64) (t_kindOf : Nat → Int32) (t_comes : Nat → Int32) (t_wants : Nat → Int32) (t_runs : Nat → Int32) (x2 : Int32) (x3 : Int32) (x4 : Int32) (x5 : Int32) (t_queueMany : Int32) (t_servedNow : Int32) (t_doneAt : Int32) (t_queueNow : Nat → Int32) (t_servedAt : Nat → Int32) : Mo_noon_l72 p_minute t_persons t_law t_bellSet t_kindOf t_comes t_wants t_runs x2 x3 x4 x5 t_queueMany t_servedNow t_doneAt t_queueNow t_servedAt = (Mo_noon_b72 p_minute t_persons t_law t_bellSet t_kindOf t_comes t_wants t_runs x2 x3 x4 x5 t_queueMany t_servedNow t_doneAt t_queueNow t_servedAt).bind (sg (fin (Mo_noon_s29 p_minute t_persons t_law t_bellSet t_kindOf t_comes t_wants t_runs))) := by
  unfold Mo_noon_l72
  exact fin_eq _ _
theorem Mo_noon_l72_fd (p_minute : Int32) (t_persons : Int32) (t_law : Int32) (t_bellSet : Int64) (t_kindOf : Nat → Int32) (t_comes : Nat → Int32) (t_wants : Nat → Int32) (t_runs : Nat → Int32) (x2 : Int32) (x3 : Int32) (x4 : Int32) (x5 : Int32) (t_queueMany : Int32) (t_servedNow : Int32) (t_doneAt : Int32) (t_queueNow : Nat → Int32) (t_servedAt : Nat → Int32) : fin (Mo_noon_s29 p_minute t_persons t_law t_bellSet t_kindOf t_comes t_wants t_runs) (1, x2, x3, x4, x5, t_queueMany, t_servedNow, t_doneAt, t_queueNow, t_servedAt) = Mo_noon_l72 p_minute t_persons t_law t_bellSet t_kindOf t_comes t_wants t_runs x2 x3 x4 x5 t_queueMany t_servedNow t_doneAt t_queueNow t_servedAt := rfl
set_option maxRecDepth 100000 in
set_option maxHeartbeats 4000000 in
theorem c_Mo_noon (l : Launch) (D : va_G) (cI cJ cS : ClassId) (q_t q_t_kindOf q_t_comes q_t_wants q_t_runs q_t_readKind q_t_readComes q_t_readWants q_t_queueNow q_t_servedAt q_t_comesWas q_t_readingOf q_t_readingAt q_t_sheetSize q_t_sheetLane q_t_sheet q_t_hands : Nat) (t_fault : Int32) (t_persons : Int32) (t_law : Int32) (t_bellSet : Int64) (t_readAt : Int32) (t_readLaw : Int32) (t_readMany : Int32) (t_queueMany : Int32) (t_servedNow : Int32) (t_doneAt : Int32) (t_readings : Int32) (t_whichMany : Int32) (t_whichOne : Int32) (t_whichTwo : Int32) (t_traceNow : Int32) (t_kindOf : Nat → Int32) (t_comes : Nat → Int32) (t_wants : Nat → Int32) (t_runs : Nat → Int32) (t_queueNow : Nat → Int32) (t_servedAt : Nat → Int32) (p_minute : Int32) (o : Int32 × Int32 × Int32 × Int32 × (Nat → Int32) × (Nat → Int32)) (hM : Mo_noon p_minute t_persons t_law t_bellSet t_kindOf t_comes t_wants t_runs t_queueMany t_servedNow t_doneAt t_queueNow t_servedAt = some o) : Ci l yX9_noon wsX9_noon rm_Mo_noon D cI cJ cS [.ref q_t, .int p_minute] (w_Mo_noon cI cJ cS q_t q_t_kindOf q_t_comes q_t_wants q_t_runs q_t_readKind q_t_readComes q_t_readWants q_t_queueNow q_t_servedAt q_t_comesWas q_t_readingOf q_t_readingAt q_t_sheetSize q_t_sheetLane q_t_sheet q_t_hands t_fault t_persons t_law t_bellSet t_readAt t_readLaw t_readMany t_queueMany t_servedNow t_doneAt t_readings t_whichMany t_whichOne t_whichTwo t_traceNow t_kindOf t_comes t_wants t_runs t_queueNow t_servedAt) (w_Mo_noon cI cJ cS q_t q_t_kindOf q_t_comes q_t_wants q_t_runs q_t_readKind q_t_readComes q_t_readWants q_t_queueNow q_t_servedAt q_t_comesWas q_t_readingOf q_t_readingAt q_t_sheetSize q_t_sheetLane q_t_sheet q_t_hands t_fault t_persons t_law t_bellSet t_readAt t_readLaw t_readMany o.2.1 o.2.2.1 o.2.2.2.1 t_readings t_whichMany t_whichOne t_whichTwo t_traceNow t_kindOf t_comes t_wants t_runs o.2.2.2.2.1 o.2.2.2.2.2) o.1 := by
  refine Ci.of (cc := cX9_noon) (maxL := 6) (ret := (some .int)) (by decide) rfl (Nat.le_of_ble_eq_true rfl) ?_
  intro p e s m args below meth c A ls hE
  obtain ⟨hx, hb, hr, hml, hown, hts, hlocks, hK, hA, hP, hD, hS, hl⟩ := hE
  have hown : s.vm.findClass RX9 = some m.cls := hown
  have hl : lv_has ls 6 [(0, .ref q_t), (1, .int p_minute)] := hl
  have iX9 : ∀ w ∈ u_ws RX9 TX9 31, w ∈ wsX9_noon := by decide +kernel
  have k0 := hts (.constantLong RX9 187 (199)) (by decide +kernel)
  have k1 := hts (.fieldLink RX9 68 "TurnQueueModel" "persons" "I") (by decide +kernel)
  have k2 := hts (.fieldLink RX9 121 "TurnQueueModel" "bellSet" "J") (by decide +kernel)
  have k3 := hts (.fieldLink RX9 34 "TurnQueueModel" "servedAt" "[I") (by decide +kernel)
  have L29 : ∀ n : Nat, (∀ (x2 : Int32) (x3 : Int32) (t_queueMany : Int32) (t_servedNow : Int32) (t_doneAt : Int32) (t_queueNow : Nat → Int32) (t_servedAt : Nat → Int32), itr (Mo_noon_s29 p_minute t_persons t_law t_bellSet t_kindOf t_comes t_wants t_runs) n (0, x2, x3, 0, 0, t_queueMany, t_servedNow, t_doneAt, t_queueNow, t_servedAt) = some o → ∀ (H : Heap) (locs : List Loc), va_P D vwCl (w_Mo_noon cI cJ cS q_t q_t_kindOf q_t_comes q_t_wants q_t_runs q_t_readKind q_t_readComes q_t_readWants q_t_queueNow q_t_servedAt q_t_comesWas q_t_readingOf q_t_readingAt q_t_sheetSize q_t_sheetLane q_t_sheet q_t_hands t_fault t_persons t_law t_bellSet t_readAt t_readLaw t_readMany t_queueMany t_servedNow t_doneAt t_readings t_whichMany t_whichOne t_whichTwo t_traceNow t_kindOf t_comes t_wants t_runs t_queueNow t_servedAt) H → va_D A (w_Mo_noon cI cJ cS q_t q_t_kindOf q_t_comes q_t_wants q_t_runs q_t_readKind q_t_readComes q_t_readWants q_t_queueNow q_t_servedAt q_t_comesWas q_t_readingOf q_t_readingAt q_t_sheetSize q_t_sheetLane q_t_sheet q_t_hands t_fault t_persons t_law t_bellSet t_readAt t_readLaw t_readMany t_queueMany t_servedNow t_doneAt t_readings t_whichMany t_whichOne t_whichTwo t_traceNow t_kindOf t_comes t_wants t_runs t_queueNow t_servedAt) → va_S A s.heap H locs → ∀ ls : Array Slot, lv_has ls 6 [(0, .ref q_t), (1, .int p_minute), (2, .int x2), (3, .int x3)] → W p l e (headSpec wsX9_noon rm_Mo_noon).room s m args below meth c H locs 0 0 (MQ below (CQi D (w_Mo_noon cI cJ cS q_t q_t_kindOf q_t_comes q_t_wants q_t_runs q_t_readKind q_t_readComes q_t_readWants q_t_queueNow q_t_servedAt q_t_comesWas q_t_readingOf q_t_readingAt q_t_sheetSize q_t_sheetLane q_t_sheet q_t_hands t_fault t_persons t_law t_bellSet t_readAt t_readLaw t_readMany o.2.1 o.2.2.1 o.2.2.2.1 t_readings t_whichMany t_whichOne t_whichTwo t_traceNow t_kindOf t_comes t_wants t_runs o.2.2.2.2.1 o.2.2.2.2.2) A o.1) args s 0 0 A) (F0 m 29 ls [])) ∧ (∀ (x2 : Int32) (x3 : Int32) (x4 : Int32) (x5 : Int32) (t_queueMany : Int32) (t_servedNow : Int32) (t_doneAt : Int32) (t_queueNow : Nat → Int32) (t_servedAt : Nat → Int32), itr (Mo_noon_s29 p_minute t_persons t_law t_bellSet t_kindOf t_comes t_wants t_runs) n (1, x2, x3, x4, x5, t_queueMany, t_servedNow, t_doneAt, t_queueNow, t_servedAt) = some o → ∀ (H : Heap) (locs : List Loc), va_P D vwCl (w_Mo_noon cI cJ cS q_t q_t_kindOf q_t_comes q_t_wants q_t_runs q_t_readKind q_t_readComes q_t_readWants q_t_queueNow q_t_servedAt q_t_comesWas q_t_readingOf q_t_readingAt q_t_sheetSize q_t_sheetLane q_t_sheet q_t_hands t_fault t_persons t_law t_bellSet t_readAt t_readLaw t_readMany t_queueMany t_servedNow t_doneAt t_readings t_whichMany t_whichOne t_whichTwo t_traceNow t_kindOf t_comes t_wants t_runs t_queueNow t_servedAt) H → va_D A (w_Mo_noon cI cJ cS q_t q_t_kindOf q_t_comes q_t_wants q_t_runs q_t_readKind q_t_readComes q_t_readWants q_t_queueNow q_t_servedAt q_t_comesWas q_t_readingOf q_t_readingAt q_t_sheetSize q_t_sheetLane q_t_sheet q_t_hands t_fault t_persons t_law t_bellSet t_readAt t_readLaw t_readMany t_queueMany t_servedNow t_doneAt t_readings t_whichMany t_whichOne t_whichTwo t_traceNow t_kindOf t_comes t_wants t_runs t_queueNow t_servedAt) → va_S A s.heap H locs → ∀ ls : Array Slot, lv_has ls 6 [(0, .ref q_t), (1, .int p_minute), (2, .int x2), (3, .int x3), (4, .int x4), (5, .int x5)] → W p l e (headSpec wsX9_noon rm_Mo_noon).room s m args below meth c H locs 0 0 (MQ below (CQi D (w_Mo_noon cI cJ cS q_t q_t_kindOf q_t_comes q_t_wants q_t_runs q_t_readKind q_t_readComes q_t_readWants q_t_queueNow q_t_servedAt q_t_comesWas q_t_readingOf q_t_readingAt q_t_sheetSize q_t_sheetLane q_t_sheet q_t_hands t_fault t_persons t_law t_bellSet t_readAt t_readLaw t_readMany o.2.1 o.2.2.1 o.2.2.2.1 t_readings t_whichMany t_whichOne t_whichTwo t_traceNow t_kindOf t_comes t_wants t_runs o.2.2.2.2.1 o.2.2.2.2.2) A o.1) args s 0 0 A) (F0 m 72 ls [])) := by
    intro n
    induction n with
    | zero => exact ⟨fun _ _ _ _ _ _ _ hM => (itr_0 hM).elim, fun _ _ _ _ _ _ _ _ _ hM => (itr_0 hM).elim⟩
    | succ n ih =>
      have J53 : ∀ (x2 : Int32) (x3 : Int32) (s0 : Int32) (t_queueMany : Int32) (t_servedNow : Int32) (t_doneAt : Int32) (t_queueNow : Nat → Int32) (t_servedAt : Nat → Int32), (Mo_noon_j53 p_minute t_persons t_law t_bellSet t_kindOf t_comes t_wants t_runs x2 x3 s0 t_queueMany t_servedNow t_doneAt t_queueNow t_servedAt).bind (sg (itr (Mo_noon_s29 p_minute t_persons t_law t_bellSet t_kindOf t_comes t_wants t_runs) n)) = some o → ∀ (H : Heap) (locs : List Loc), va_P D vwCl (w_Mo_noon cI cJ cS q_t q_t_kindOf q_t_comes q_t_wants q_t_runs q_t_readKind q_t_readComes q_t_readWants q_t_queueNow q_t_servedAt q_t_comesWas q_t_readingOf q_t_readingAt q_t_sheetSize q_t_sheetLane q_t_sheet q_t_hands t_fault t_persons t_law t_bellSet t_readAt t_readLaw t_readMany t_queueMany t_servedNow t_doneAt t_readings t_whichMany t_whichOne t_whichTwo t_traceNow t_kindOf t_comes t_wants t_runs t_queueNow t_servedAt) H → va_D A (w_Mo_noon cI cJ cS q_t q_t_kindOf q_t_comes q_t_wants q_t_runs q_t_readKind q_t_readComes q_t_readWants q_t_queueNow q_t_servedAt q_t_comesWas q_t_readingOf q_t_readingAt q_t_sheetSize q_t_sheetLane q_t_sheet q_t_hands t_fault t_persons t_law t_bellSet t_readAt t_readLaw t_readMany t_queueMany t_servedNow t_doneAt t_readings t_whichMany t_whichOne t_whichTwo t_traceNow t_kindOf t_comes t_wants t_runs t_queueNow t_servedAt) → va_S A s.heap H locs → ∀ ls : Array Slot, lv_has ls 6 [(0, .ref q_t), (1, .int p_minute), (2, .int x2), (3, .int x3)] → W p l e (headSpec wsX9_noon rm_Mo_noon).room s m args below meth c H locs 0 0 (MQ below (CQi D (w_Mo_noon cI cJ cS q_t q_t_kindOf q_t_comes q_t_wants q_t_runs q_t_readKind q_t_readComes q_t_readWants q_t_queueNow q_t_servedAt q_t_comesWas q_t_readingOf q_t_readingAt q_t_sheetSize q_t_sheetLane q_t_sheet q_t_hands t_fault t_persons t_law t_bellSet t_readAt t_readLaw t_readMany o.2.1 o.2.2.1 o.2.2.2.1 t_readings t_whichMany t_whichOne t_whichTwo t_traceNow t_kindOf t_comes t_wants t_runs o.2.2.2.2.1 o.2.2.2.2.2) A o.1) args s 0 0 A) (F0 m 53 ls [.int s0]) := by
        intro x2 x3 s0 t_queueMany t_servedNow t_doneAt t_queueNow t_servedAt hM H locs hP hD hS ls hl
        unfold Mo_noon_j53 at hM
        refine lv_istore (lv' := [(4, .int s0), (0, .ref q_t), (1, .int p_minute), (2, .int x2), (3, .int x3)]) hx hb dX9_noon_53 hl (Nat.le_of_ble_eq_true rfl) rfl (fun ls hl => ?_)
        refine lv_iload hx hb dX9_noon_55 (lv_at hl 0 rfl) ?_
        refine lv_if_eq (tgt := 69) hx hb dX9_noon_57 (by decide) (fun c13 => ?_) (fun c13 => ?_)
        · have hM := (s_if hM).1 c13
          refine lv_iconst (v := 0) hx hb dX9_noon_69 (by decide) ?_
          refine lv_istore (lv' := [(5, .int 0), (4, .int s0), (0, .ref q_t), (1, .int p_minute), (2, .int x2), (3, .int x3)]) hx hb dX9_noon_70 hl (Nat.le_of_ble_eq_true rfl) rfl (fun ls hl => ?_)
          exact ih.2 x2 x3 s0 0 t_queueMany t_servedNow t_doneAt t_queueNow t_servedAt (s_jp hM) _ _ hP hD hS _ (lv_sub hl [2, 3, 4, 5, 1, 0] rfl)
        · have hM := (s_if hM).2 c13
          refine lv_aload_n hx hb dX9_noon_60 rfl (lv_at hl 1 rfl) ?_
          refine lv_iload_n hx hb dX9_noon_61 rfl (lv_at hl 4 rfl) ?_
          refine lv_aload_n hx hb dX9_noon_62 rfl (lv_at hl 1 rfl) ?_
          refine va_get (ci := 8) (v := .long t_bellSet) (C := RX9) (T := TX9) (N := 31) hx hb hts iX9 hown hK.1 hP 0 rfl rfl 7 (Nat.le_of_ble_eq_true rfl) k2 (fun _ h9 => h9) rfl dX9_noon_63 ?_
          obtain ⟨y14, h15, hM⟩ := s_bd hM
          refine af_v (ws2 := (w_Mo_noon cI cJ cS q_t q_t_kindOf q_t_comes q_t_wants q_t_runs q_t_readKind q_t_readComes q_t_readWants q_t_queueNow q_t_servedAt q_t_comesWas q_t_readingOf q_t_readingAt q_t_sheetSize q_t_sheetLane q_t_sheet q_t_hands t_fault t_persons t_law t_bellSet t_readAt t_readLaw t_readMany y14.1 y14.2.1 y14.2.2.1 t_readings t_whichMany t_whichOne t_whichTwo t_traceNow t_kindOf t_comes t_wants t_runs y14.2.2.2.1 y14.2.2.2.2)) (va_runV (As := [.int x3, .long t_bellSet]) (rest := []) ⟨hx, hb, hml, hown, hts⟩ (c_Mo_goDay l D cI cJ cS q_t q_t_kindOf q_t_comes q_t_wants q_t_runs q_t_readKind q_t_readComes q_t_readWants q_t_queueNow q_t_servedAt q_t_comesWas q_t_readingOf q_t_readingAt q_t_sheetSize q_t_sheetLane q_t_sheet q_t_hands t_fault t_persons t_law t_bellSet t_readAt t_readLaw t_readMany t_queueMany t_servedNow t_doneAt t_readings t_whichMany t_whichOne t_whichTwo t_traceNow t_kindOf t_comes t_wants t_runs t_queueNow t_servedAt x3 t_bellSet y14 h15 _) (cwV 2 hts gX9_noon_X9_goDay rfl rfl rfl (by decide +kernel) ⟨(Nat.le_of_ble_eq_true rfl), (Nat.le_of_ble_eq_true rfl)⟩) (pre_V hK hP hD [0, 1, 2, 3, 4, 5, 6] rfl rfl rfl rfl) rfl rfl hl.1 rfl (lv_room (Nat.le_of_ble_eq_true rfl)) dX9_noon_66 ⟨Nat.zero_le _, Nat.zero_le _⟩) hP hD hS hA [0, 1, 2, 3, 4, 5, 6] [] [0, 1, 2, 3, 4, 5, 6] rfl rfl rfl (by decide) rfl rfl (fun H locs hP hD hS => ?_)
          refine lv_iconst (v := 0) hx hb dX9_noon_69 (by decide) ?_
          refine lv_istore (lv' := [(5, .int 0), (4, .int s0), (0, .ref q_t), (1, .int p_minute), (2, .int x2), (3, .int x3)]) hx hb dX9_noon_70 hl (Nat.le_of_ble_eq_true rfl) rfl (fun ls hl => ?_)
          exact ih.2 x2 x3 s0 0 y14.1 y14.2.1 y14.2.2.1 y14.2.2.2.1 y14.2.2.2.2 (s_jp hM) _ _ hP hD hS _ (lv_sub hl [2, 3, 4, 5, 1, 0] rfl)
      have J119 : ∀ (x2 : Int32) (x3 : Int32) (x4 : Int32) (t_queueMany : Int32) (t_servedNow : Int32) (t_doneAt : Int32) (t_queueNow : Nat → Int32) (t_servedAt : Nat → Int32), (Mo_noon_j119 p_minute t_persons t_law t_bellSet t_kindOf t_comes t_wants t_runs x2 x3 x4 t_queueMany t_servedNow t_doneAt t_queueNow t_servedAt).bind (sg (itr (Mo_noon_s29 p_minute t_persons t_law t_bellSet t_kindOf t_comes t_wants t_runs) n)) = some o → ∀ (H : Heap) (locs : List Loc), va_P D vwCl (w_Mo_noon cI cJ cS q_t q_t_kindOf q_t_comes q_t_wants q_t_runs q_t_readKind q_t_readComes q_t_readWants q_t_queueNow q_t_servedAt q_t_comesWas q_t_readingOf q_t_readingAt q_t_sheetSize q_t_sheetLane q_t_sheet q_t_hands t_fault t_persons t_law t_bellSet t_readAt t_readLaw t_readMany t_queueMany t_servedNow t_doneAt t_readings t_whichMany t_whichOne t_whichTwo t_traceNow t_kindOf t_comes t_wants t_runs t_queueNow t_servedAt) H → va_D A (w_Mo_noon cI cJ cS q_t q_t_kindOf q_t_comes q_t_wants q_t_runs q_t_readKind q_t_readComes q_t_readWants q_t_queueNow q_t_servedAt q_t_comesWas q_t_readingOf q_t_readingAt q_t_sheetSize q_t_sheetLane q_t_sheet q_t_hands t_fault t_persons t_law t_bellSet t_readAt t_readLaw t_readMany t_queueMany t_servedNow t_doneAt t_readings t_whichMany t_whichOne t_whichTwo t_traceNow t_kindOf t_comes t_wants t_runs t_queueNow t_servedAt) → va_S A s.heap H locs → ∀ ls : Array Slot, lv_has ls 6 [(0, .ref q_t), (1, .int p_minute), (2, .int x2), (3, .int x3), (4, .int x4)] → W p l e (headSpec wsX9_noon rm_Mo_noon).room s m args below meth c H locs 0 0 (MQ below (CQi D (w_Mo_noon cI cJ cS q_t q_t_kindOf q_t_comes q_t_wants q_t_runs q_t_readKind q_t_readComes q_t_readWants q_t_queueNow q_t_servedAt q_t_comesWas q_t_readingOf q_t_readingAt q_t_sheetSize q_t_sheetLane q_t_sheet q_t_hands t_fault t_persons t_law t_bellSet t_readAt t_readLaw t_readMany o.2.1 o.2.2.1 o.2.2.2.1 t_readings t_whichMany t_whichOne t_whichTwo t_traceNow t_kindOf t_comes t_wants t_runs o.2.2.2.2.1 o.2.2.2.2.2) A o.1) args s 0 0 A) (F0 m 119 ls []) := by
        intro x2 x3 x4 t_queueMany t_servedNow t_doneAt t_queueNow t_servedAt hM H locs hP hD hS ls hl
        unfold Mo_noon_j119 at hM
        refine lv_iload hx hb dX9_noon_119 (lv_at hl 4 rfl) ?_
        refine lv_if_eq (tgt := 128) hx hb dX9_noon_121 (by decide) (fun c17 => ?_) (fun c17 => ?_)
        · have hM := (s_if hM).1 c17
          refine lv_iload_n hx hb dX9_noon_128 rfl (lv_at hl 2 rfl) ?_
          refine lv_istore_n (lv' := [(2, .int x2), (0, .ref q_t), (1, .int p_minute), (3, .int x3), (4, .int x4)]) hx hb dX9_noon_129 rfl hl (Nat.le_of_ble_eq_true rfl) rfl (fun ls hl => ?_)
          obtain ⟨y18, ey18⟩ : ∃ y : Int32, y = x3 + 1 := ⟨_, rfl⟩
          have hM := s_lt hM y18 ey18
          refine lv_iinc (v := y18) (lv' := [(3, .int y18), (2, .int x2), (0, .ref q_t), (1, .int p_minute), (4, .int x4)]) hx hb dX9_noon_130 hl (k := 3) rfl (by rw [ey18]; rfl) (Nat.le_of_ble_eq_true rfl) rfl (fun ls hl => ?_)
          refine lv_goto (tgt := 29) hx hb dX9_noon_133 (by decide) ?_
          exact ih.1 x2 y18 t_queueMany t_servedNow t_doneAt t_queueNow t_servedAt (s_jp hM) _ _ hP hD hS _ (lv_sub hl [2, 3, 1, 0] rfl)
        · have hM := (s_if hM).2 c17
          refine lv_iload_n hx hb dX9_noon_124 rfl (lv_at hl 3 rfl) ?_
          refine lv_goto (tgt := 129) hx hb dX9_noon_125 (by decide) ?_
          refine lv_istore_n (lv' := [(2, .int x3), (0, .ref q_t), (1, .int p_minute), (3, .int x3), (4, .int x4)]) hx hb dX9_noon_129 rfl hl (Nat.le_of_ble_eq_true rfl) rfl (fun ls hl => ?_)
          obtain ⟨y19, ey19⟩ : ∃ y : Int32, y = x3 + 1 := ⟨_, rfl⟩
          have hM := s_lt hM y19 ey19
          refine lv_iinc (v := y19) (lv' := [(3, .int y19), (2, .int x3), (0, .ref q_t), (1, .int p_minute), (4, .int x4)]) hx hb dX9_noon_130 hl (k := 3) rfl (by rw [ey19]; rfl) (Nat.le_of_ble_eq_true rfl) rfl (fun ls hl => ?_)
          refine lv_goto (tgt := 29) hx hb dX9_noon_133 (by decide) ?_
          exact ih.1 x3 y19 t_queueMany t_servedNow t_doneAt t_queueNow t_servedAt (s_jp hM) _ _ hP hD hS _ (lv_sub hl [2, 3, 1, 0] rfl)
      refine ⟨?_, ?_⟩
      · intro x2 x3 t_queueMany t_servedNow t_doneAt t_queueNow t_servedAt hM H locs hP hD hS ls hl
        have hM : (Mo_noon_b29 p_minute t_persons t_law t_bellSet t_kindOf t_comes t_wants t_runs x2 x3 t_queueMany t_servedNow t_doneAt t_queueNow t_servedAt).bind (sg (itr (Mo_noon_s29 p_minute t_persons t_law t_bellSet t_kindOf t_comes t_wants t_runs) n)) = some o := hM
        unfold Mo_noon_b29 at hM
        refine lv_iload_n hx hb dX9_noon_29 rfl (lv_at hl 3 rfl) ?_
        refine lv_aload_n hx hb dX9_noon_30 rfl (lv_at hl 0 rfl) ?_
        obtain ⟨y5, h6, hM⟩ := s_bd hM
        refine af_i (ws2 := (w_Mo_noon cI cJ cS q_t q_t_kindOf q_t_comes q_t_wants q_t_runs q_t_readKind q_t_readComes q_t_readWants q_t_queueNow q_t_servedAt q_t_comesWas q_t_readingOf q_t_readingAt q_t_sheetSize q_t_sheetLane q_t_sheet q_t_hands t_fault t_persons t_law t_bellSet t_readAt t_readLaw t_readMany t_queueMany t_servedNow t_doneAt t_readings t_whichMany t_whichOne t_whichTwo t_traceNow t_kindOf t_comes t_wants t_runs t_queueNow t_servedAt)) (va_runV (As := []) (rest := [.int x3]) ⟨hx, hb, hml, hown, hts⟩ (c_Mo_all l D cI cJ cS q_t q_t_kindOf q_t_comes q_t_wants q_t_runs q_t_readKind q_t_readComes q_t_readWants q_t_queueNow q_t_servedAt q_t_comesWas q_t_readingOf q_t_readingAt q_t_sheetSize q_t_sheetLane q_t_sheet q_t_hands t_fault t_persons t_law t_bellSet t_readAt t_readLaw t_readMany t_queueMany t_servedNow t_doneAt t_readings t_whichMany t_whichOne t_whichTwo t_traceNow y5 h6 _) (cwV 0 hts gX9_noon_X9_all rfl rfl rfl (by decide +kernel) ⟨(Nat.le_of_ble_eq_true rfl), (Nat.le_of_ble_eq_true rfl)⟩) (pre_V hK hP hD [0] rfl rfl rfl rfl) rfl rfl hl.1 rfl (lv_room (Nat.le_of_ble_eq_true rfl)) dX9_noon_31 ⟨Nat.zero_le _, Nat.zero_le _⟩) hP hD hS hA [0] [1, 2, 3, 4, 5, 6] [6, 0, 1, 2, 3, 4, 5] rfl rfl rfl (by decide) rfl rfl (fun H locs hP hD hS => ?_)
        refine lv_icmp_gt (tgt := 136) hx hb dX9_noon_34 (by decide) (fun c7 => ?_) (fun c7 => ?_)
        · have hM := (s_if hM).1 c7
          refine lv_iload_n hx hb dX9_noon_136 rfl (lv_at hl 2 rfl) ?_
          have hM := (Option.some.inj (s_rt hM))
          subst hM
          exact rt_i hx hb hr hlocks hP hD hS dX9_noon_137
        · have hM := (s_if hM).2 c7
          refine lv_iload_n hx hb dX9_noon_37 rfl (lv_at hl 3 rfl) ?_
          obtain ⟨y8, h9, hM⟩ := s_bd hM
          refine af_i (ws2 := (w_Mo_noon cI cJ cS q_t q_t_kindOf q_t_comes q_t_wants q_t_runs q_t_readKind q_t_readComes q_t_readWants q_t_queueNow q_t_servedAt q_t_comesWas q_t_readingOf q_t_readingAt q_t_sheetSize q_t_sheetLane q_t_sheet q_t_hands t_fault t_persons t_law t_bellSet t_readAt t_readLaw t_readMany t_queueMany t_servedNow t_doneAt t_readings t_whichMany t_whichOne t_whichTwo t_traceNow t_kindOf t_comes t_wants t_runs t_queueNow t_servedAt)) (va_runS (As := [.int x3]) (rest := []) ⟨hx, hb, hml, hown, hts⟩ (c_Mo_bits l D cI cJ cS x3 y8 h9 _) (va_cwS 1 hts gX9_noon_X9_bits rfl rfl rfl (by decide +kernel) ⟨(Nat.le_of_ble_eq_true rfl), (Nat.le_of_ble_eq_true rfl)⟩) (pre_S hK hP hD [] rfl rfl) rfl rfl hl.1 rfl (lv_room (Nat.le_of_ble_eq_true rfl)) dX9_noon_38 ⟨Nat.zero_le _, Nat.zero_le _⟩) hP hD hS hA [] [0, 1, 2, 3, 4, 5, 6] [0, 1, 2, 3, 4, 5, 6] rfl rfl rfl (by decide) rfl rfl (fun H locs hP hD hS => ?_)
          refine lv_iload_n hx hb dX9_noon_41 rfl (lv_at hl 2 rfl) ?_
          obtain ⟨y10, h11, hM⟩ := s_bd hM
          refine af_i (ws2 := (w_Mo_noon cI cJ cS q_t q_t_kindOf q_t_comes q_t_wants q_t_runs q_t_readKind q_t_readComes q_t_readWants q_t_queueNow q_t_servedAt q_t_comesWas q_t_readingOf q_t_readingAt q_t_sheetSize q_t_sheetLane q_t_sheet q_t_hands t_fault t_persons t_law t_bellSet t_readAt t_readLaw t_readMany t_queueMany t_servedNow t_doneAt t_readings t_whichMany t_whichOne t_whichTwo t_traceNow t_kindOf t_comes t_wants t_runs t_queueNow t_servedAt)) (va_runS (As := [.int x2]) (rest := [.int y8]) ⟨hx, hb, hml, hown, hts⟩ (c_Mo_bits l D cI cJ cS x2 y10 h11 _) (va_cwS 1 hts gX9_noon_X9_bits rfl rfl rfl (by decide +kernel) ⟨(Nat.le_of_ble_eq_true rfl), (Nat.le_of_ble_eq_true rfl)⟩) (pre_S hK hP hD [] rfl rfl) rfl rfl hl.1 rfl (lv_room (Nat.le_of_ble_eq_true rfl)) dX9_noon_42 ⟨Nat.zero_le _, Nat.zero_le _⟩) hP hD hS hA [] [0, 1, 2, 3, 4, 5, 6] [0, 1, 2, 3, 4, 5, 6] rfl rfl rfl (by decide) rfl rfl (fun H locs hP hD hS => ?_)
          refine lv_icmp_le (tgt := 52) hx hb dX9_noon_45 (by decide) (fun c12 => ?_) (fun c12 => ?_)
          · have hM := (s_if hM).1 c12
            refine lv_iconst (v := 0) hx hb dX9_noon_52 (by decide) ?_
            exact J53 x2 x3 0 t_queueMany t_servedNow t_doneAt t_queueNow t_servedAt hM _ _ hP hD hS _ (lv_sub hl [0, 1, 2, 3] rfl)
          · have hM := (s_if hM).2 c12
            refine lv_iconst (v := 1) hx hb dX9_noon_48 (by decide) ?_
            refine lv_goto (tgt := 53) hx hb dX9_noon_49 (by decide) ?_
            exact J53 x2 x3 1 t_queueMany t_servedNow t_doneAt t_queueNow t_servedAt hM _ _ hP hD hS _ (lv_sub hl [0, 1, 2, 3] rfl)
      · intro x2 x3 x4 x5 t_queueMany t_servedNow t_doneAt t_queueNow t_servedAt hM H locs hP hD hS ls hl
        have hM : (Mo_noon_b72 p_minute t_persons t_law t_bellSet t_kindOf t_comes t_wants t_runs x2 x3 x4 x5 t_queueMany t_servedNow t_doneAt t_queueNow t_servedAt).bind (sg (itr (Mo_noon_s29 p_minute t_persons t_law t_bellSet t_kindOf t_comes t_wants t_runs) n)) = some o := hM
        unfold Mo_noon_b72 at hM
        refine lv_iload hx hb dX9_noon_72 (lv_at hl 5 rfl) ?_
        refine lv_aload_n hx hb dX9_noon_74 rfl (lv_at hl 0 rfl) ?_
        refine va_get (ci := 8) (v := .int t_persons) (C := RX9) (T := TX9) (N := 31) hx hb hts iX9 hown hK.1 hP 0 rfl rfl 1 (Nat.le_of_ble_eq_true rfl) k1 (fun _ h9 => h9) rfl dX9_noon_75 ?_
        refine lv_icmp_ge (tgt := 119) hx hb dX9_noon_78 (by decide) (fun c16 => ?_) (fun c16 => ?_)
        · have hM := (s_if hM).1 c16
          exact J119 x2 x3 x4 t_queueMany t_servedNow t_doneAt t_queueNow t_servedAt hM _ _ hP hD hS _ (lv_sub hl [0, 1, 2, 3, 4] rfl)
        · have hM := (s_if hM).2 c16
          refine lv_iload hx hb dX9_noon_81 (lv_at hl 4 rfl) ?_
          refine lv_if_eq (tgt := 119) hx hb dX9_noon_83 (by decide) (fun c20 => ?_) (fun c20 => ?_)
          · have hM := (s_if hM).1 c20
            exact J119 x2 x3 x4 t_queueMany t_servedNow t_doneAt t_queueNow t_servedAt hM _ _ hP hD hS _ (lv_sub hl [0, 1, 2, 3, 4] rfl)
          · have hM := (s_if hM).2 c20
            refine lv_iload_n hx hb dX9_noon_86 rfl (lv_at hl 3 rfl) ?_
            refine lv_iload hx hb dX9_noon_87 (lv_at hl 5 rfl) ?_
            refine lv_ishr hx hb dX9_noon_89 ?_
            refine lv_iconst (v := 1) hx hb dX9_noon_90 (by decide) ?_
            refine lv_iand hx hb dX9_noon_91 ?_
            refine lv_if_eq (tgt := 106) hx hb dX9_noon_92 (by decide) (fun c21 => ?_) (fun c21 => ?_)
            · have hM := (s_if hM).1 c21
              refine lv_iconst (v := 1) hx hb dX9_noon_106 (by decide) ?_
              refine lv_goto (tgt := 111) hx hb dX9_noon_107 (by decide) ?_
              refine lv_istore (lv' := [(4, .int 1), (0, .ref q_t), (1, .int p_minute), (2, .int x2), (3, .int x3), (5, .int x5)]) hx hb dX9_noon_111 hl (Nat.le_of_ble_eq_true rfl) rfl (fun ls hl => ?_)
              obtain ⟨y22, ey22⟩ : ∃ y : Int32, y = x5 + 1 := ⟨_, rfl⟩
              have hM := s_lt hM y22 ey22
              refine lv_iinc (v := y22) (lv' := [(5, .int y22), (4, .int 1), (0, .ref q_t), (1, .int p_minute), (2, .int x2), (3, .int x3)]) hx hb dX9_noon_113 hl (k := 5) rfl (by rw [ey22]; rfl) (Nat.le_of_ble_eq_true rfl) rfl (fun ls hl => ?_)
              refine lv_goto (tgt := 72) hx hb dX9_noon_116 (by decide) ?_
              exact ih.2 x2 x3 1 y22 t_queueMany t_servedNow t_doneAt t_queueNow t_servedAt (s_jp hM) _ _ hP hD hS _ (lv_sub hl [2, 3, 4, 5, 1, 0] rfl)
            · have hM := (s_if hM).2 c21
              refine lv_aload_n hx hb dX9_noon_95 rfl (lv_at hl 0 rfl) ?_
              refine va_get (ci := 8) (v := .ref q_t_servedAt) (C := RX9) (T := TX9) (N := 31) hx hb hts iX9 hown hK.1 hP 0 rfl rfl 18 (Nat.le_of_ble_eq_true rfl) k3 (fun _ h9 => h9) rfl dX9_noon_96 ?_
              refine lv_iload hx hb dX9_noon_99 (lv_at hl 5 rfl) ?_
              obtain ⟨h23, hM⟩ := s_ck hM
              refine va_iald hx hb hK.1 hP 6 0 rfl rfl h23 dX9_noon_101 ?_
              refine lv_iload_n hx hb dX9_noon_102 rfl (lv_at hl 1 rfl) ?_
              refine lv_icmp_gt (tgt := 110) hx hb dX9_noon_103 (by decide) (fun c24 => ?_) (fun c24 => ?_)
              · have hM := (s_if hM).1 c24
                refine lv_iconst (v := 0) hx hb dX9_noon_110 (by decide) ?_
                refine lv_istore (lv' := [(4, .int 0), (0, .ref q_t), (1, .int p_minute), (2, .int x2), (3, .int x3), (5, .int x5)]) hx hb dX9_noon_111 hl (Nat.le_of_ble_eq_true rfl) rfl (fun ls hl => ?_)
                obtain ⟨y25, ey25⟩ : ∃ y : Int32, y = x5 + 1 := ⟨_, rfl⟩
                have hM := s_lt hM y25 ey25
                refine lv_iinc (v := y25) (lv' := [(5, .int y25), (4, .int 0), (0, .ref q_t), (1, .int p_minute), (2, .int x2), (3, .int x3)]) hx hb dX9_noon_113 hl (k := 5) rfl (by rw [ey25]; rfl) (Nat.le_of_ble_eq_true rfl) rfl (fun ls hl => ?_)
                refine lv_goto (tgt := 72) hx hb dX9_noon_116 (by decide) ?_
                exact ih.2 x2 x3 0 y25 t_queueMany t_servedNow t_doneAt t_queueNow t_servedAt (s_jp hM) _ _ hP hD hS _ (lv_sub hl [2, 3, 4, 5, 1, 0] rfl)
              · have hM := (s_if hM).2 c24
                refine lv_iconst (v := 1) hx hb dX9_noon_106 (by decide) ?_
                refine lv_goto (tgt := 111) hx hb dX9_noon_107 (by decide) ?_
                refine lv_istore (lv' := [(4, .int 1), (0, .ref q_t), (1, .int p_minute), (2, .int x2), (3, .int x3), (5, .int x5)]) hx hb dX9_noon_111 hl (Nat.le_of_ble_eq_true rfl) rfl (fun ls hl => ?_)
                obtain ⟨y26, ey26⟩ : ∃ y : Int32, y = x5 + 1 := ⟨_, rfl⟩
                have hM := s_lt hM y26 ey26
                refine lv_iinc (v := y26) (lv' := [(5, .int y26), (4, .int 1), (0, .ref q_t), (1, .int p_minute), (2, .int x2), (3, .int x3)]) hx hb dX9_noon_113 hl (k := 5) rfl (by rw [ey26]; rfl) (Nat.le_of_ble_eq_true rfl) rfl (fun ls hl => ?_)
                refine lv_goto (tgt := 72) hx hb dX9_noon_116 (by decide) ?_
                exact ih.2 x2 x3 1 y26 t_queueMany t_servedNow t_doneAt t_queueNow t_servedAt (s_jp hM) _ _ hP hD hS _ (lv_sub hl [2, 3, 4, 5, 1, 0] rfl)
  have J29 : ∀ (x2 : Int32) (x3 : Int32) (t_queueMany : Int32) (t_servedNow : Int32) (t_doneAt : Int32) (t_queueNow : Nat → Int32) (t_servedAt : Nat → Int32), Mo_noon_l29 p_minute t_persons t_law t_bellSet t_kindOf t_comes t_wants t_runs x2 x3 t_queueMany t_servedNow t_doneAt t_queueNow t_servedAt = some o → ∀ (H : Heap) (locs : List Loc), va_P D vwCl (w_Mo_noon cI cJ cS q_t q_t_kindOf q_t_comes q_t_wants q_t_runs q_t_readKind q_t_readComes q_t_readWants q_t_queueNow q_t_servedAt q_t_comesWas q_t_readingOf q_t_readingAt q_t_sheetSize q_t_sheetLane q_t_sheet q_t_hands t_fault t_persons t_law t_bellSet t_readAt t_readLaw t_readMany t_queueMany t_servedNow t_doneAt t_readings t_whichMany t_whichOne t_whichTwo t_traceNow t_kindOf t_comes t_wants t_runs t_queueNow t_servedAt) H → va_D A (w_Mo_noon cI cJ cS q_t q_t_kindOf q_t_comes q_t_wants q_t_runs q_t_readKind q_t_readComes q_t_readWants q_t_queueNow q_t_servedAt q_t_comesWas q_t_readingOf q_t_readingAt q_t_sheetSize q_t_sheetLane q_t_sheet q_t_hands t_fault t_persons t_law t_bellSet t_readAt t_readLaw t_readMany t_queueMany t_servedNow t_doneAt t_readings t_whichMany t_whichOne t_whichTwo t_traceNow t_kindOf t_comes t_wants t_runs t_queueNow t_servedAt) → va_S A s.heap H locs → ∀ ls : Array Slot, lv_has ls 6 [(0, .ref q_t), (1, .int p_minute), (2, .int x2), (3, .int x3)] → W p l e (headSpec wsX9_noon rm_Mo_noon).room s m args below meth c H locs 0 0 (MQ below (CQi D (w_Mo_noon cI cJ cS q_t q_t_kindOf q_t_comes q_t_wants q_t_runs q_t_readKind q_t_readComes q_t_readWants q_t_queueNow q_t_servedAt q_t_comesWas q_t_readingOf q_t_readingAt q_t_sheetSize q_t_sheetLane q_t_sheet q_t_hands t_fault t_persons t_law t_bellSet t_readAt t_readLaw t_readMany o.2.1 o.2.2.1 o.2.2.2.1 t_readings t_whichMany t_whichOne t_whichTwo t_traceNow t_kindOf t_comes t_wants t_runs o.2.2.2.2.1 o.2.2.2.2.2) A o.1) args s 0 0 A) (F0 m 29 ls []) := by
    intro x2 x3 t_queueMany t_servedNow t_doneAt t_queueNow t_servedAt hM
    unfold Mo_noon_l29 at hM
    obtain ⟨n0, hM⟩ := fin_some hM
    exact (L29 n0).1 x2 x3 t_queueMany t_servedNow t_doneAt t_queueNow t_servedAt hM
  have J72 : ∀ (x2 : Int32) (x3 : Int32) (x4 : Int32) (x5 : Int32) (t_queueMany : Int32) (t_servedNow : Int32) (t_doneAt : Int32) (t_queueNow : Nat → Int32) (t_servedAt : Nat → Int32), Mo_noon_l72 p_minute t_persons t_law t_bellSet t_kindOf t_comes t_wants t_runs x2 x3 x4 x5 t_queueMany t_servedNow t_doneAt t_queueNow t_servedAt = some o → ∀ (H : Heap) (locs : List Loc), va_P D vwCl (w_Mo_noon cI cJ cS q_t q_t_kindOf q_t_comes q_t_wants q_t_runs q_t_readKind q_t_readComes q_t_readWants q_t_queueNow q_t_servedAt q_t_comesWas q_t_readingOf q_t_readingAt q_t_sheetSize q_t_sheetLane q_t_sheet q_t_hands t_fault t_persons t_law t_bellSet t_readAt t_readLaw t_readMany t_queueMany t_servedNow t_doneAt t_readings t_whichMany t_whichOne t_whichTwo t_traceNow t_kindOf t_comes t_wants t_runs t_queueNow t_servedAt) H → va_D A (w_Mo_noon cI cJ cS q_t q_t_kindOf q_t_comes q_t_wants q_t_runs q_t_readKind q_t_readComes q_t_readWants q_t_queueNow q_t_servedAt q_t_comesWas q_t_readingOf q_t_readingAt q_t_sheetSize q_t_sheetLane q_t_sheet q_t_hands t_fault t_persons t_law t_bellSet t_readAt t_readLaw t_readMany t_queueMany t_servedNow t_doneAt t_readings t_whichMany t_whichOne t_whichTwo t_traceNow t_kindOf t_comes t_wants t_runs t_queueNow t_servedAt) → va_S A s.heap H locs → ∀ ls : Array Slot, lv_has ls 6 [(0, .ref q_t), (1, .int p_minute), (2, .int x2), (3, .int x3), (4, .int x4), (5, .int x5)] → W p l e (headSpec wsX9_noon rm_Mo_noon).room s m args below meth c H locs 0 0 (MQ below (CQi D (w_Mo_noon cI cJ cS q_t q_t_kindOf q_t_comes q_t_wants q_t_runs q_t_readKind q_t_readComes q_t_readWants q_t_queueNow q_t_servedAt q_t_comesWas q_t_readingOf q_t_readingAt q_t_sheetSize q_t_sheetLane q_t_sheet q_t_hands t_fault t_persons t_law t_bellSet t_readAt t_readLaw t_readMany o.2.1 o.2.2.1 o.2.2.2.1 t_readings t_whichMany t_whichOne t_whichTwo t_traceNow t_kindOf t_comes t_wants t_runs o.2.2.2.2.1 o.2.2.2.2.2) A o.1) args s 0 0 A) (F0 m 72 ls []) := by
    intro x2 x3 x4 x5 t_queueMany t_servedNow t_doneAt t_queueNow t_servedAt hM
    unfold Mo_noon_l72 at hM
    obtain ⟨n0, hM⟩ := fin_some hM
    exact (L29 n0).2 x2 x3 x4 x5 t_queueMany t_servedNow t_doneAt t_queueNow t_servedAt hM
  unfold Mo_noon at hM
  refine lv_iload_n hx hb dX9_noon_0 rfl (lv_at hl 1 rfl) ?_
  refine lv_i2l (v := p_minute.toInt64) hx hb dX9_noon_1 rfl ?_
  refine lv_lconst (v := 0) hx hb dX9_noon_2 (by decide) ?_
  refine lv_ldc2 (v := 199) hx hb hown k0 dX9_noon_3 ?_
  obtain ⟨y1, h2, hM⟩ := o_bd hM
  refine af_i (ws2 := (w_Mo_noon cI cJ cS q_t q_t_kindOf q_t_comes q_t_wants q_t_runs q_t_readKind q_t_readComes q_t_readWants q_t_queueNow q_t_servedAt q_t_comesWas q_t_readingOf q_t_readingAt q_t_sheetSize q_t_sheetLane q_t_sheet q_t_hands t_fault t_persons t_law t_bellSet t_readAt t_readLaw t_readMany t_queueMany t_servedNow t_doneAt t_readings t_whichMany t_whichOne t_whichTwo t_traceNow t_kindOf t_comes t_wants t_runs t_queueNow t_servedAt)) (va_runS (As := [.long p_minute.toInt64, .long 0, .long 199]) (rest := []) ⟨hx, hb, hml, hown, hts⟩ (c_Mo_in l D cI cJ cS p_minute.toInt64 0 199 y1 h2 _) (va_cwS 3 hts gX9_noon_X9_in rfl rfl rfl (by decide +kernel) ⟨(Nat.le_of_ble_eq_true rfl), (Nat.le_of_ble_eq_true rfl)⟩) (pre_S hK hP hD [] rfl rfl) rfl rfl hl.1 rfl (lv_room (Nat.le_of_ble_eq_true rfl)) dX9_noon_6 ⟨Nat.zero_le _, Nat.zero_le _⟩) hP hD hS hA [] [0, 1, 2, 3, 4, 5, 6] [0, 1, 2, 3, 4, 5, 6] rfl rfl rfl (by decide) rfl rfl (fun H locs hP hD hS => ?_)
  refine lv_if_ne (tgt := 15) hx hb dX9_noon_9 (by decide) (fun c3 => ?_) (fun c3 => ?_)
  · have hM := (o_if hM).2 c3
    refine lv_aload_n hx hb dX9_noon_15 rfl (lv_at hl 0 rfl) ?_
    refine va_get (ci := 8) (v := .int t_persons) (C := RX9) (T := TX9) (N := 31) hx hb hts iX9 hown hK.1 hP 0 rfl rfl 1 (Nat.le_of_ble_eq_true rfl) k1 (fun _ h9 => h9) rfl dX9_noon_16 ?_
    refine lv_if_ne (tgt := 25) hx hb dX9_noon_19 (by decide) (fun c4 => ?_) (fun c4 => ?_)
    · have hM := (o_if hM).2 c4
      refine lv_iconst (v := 0) hx hb dX9_noon_25 (by decide) ?_
      refine lv_istore_n (lv' := [(2, .int 0), (0, .ref q_t), (1, .int p_minute)]) hx hb dX9_noon_26 rfl hl (Nat.le_of_ble_eq_true rfl) rfl (fun ls hl => ?_)
      refine lv_iconst (v := 1) hx hb dX9_noon_27 (by decide) ?_
      refine lv_istore_n (lv' := [(3, .int 1), (2, .int 0), (0, .ref q_t), (1, .int p_minute)]) hx hb dX9_noon_28 rfl hl (Nat.le_of_ble_eq_true rfl) rfl (fun ls hl => ?_)
      exact J29 0 1 t_queueMany t_servedNow t_doneAt t_queueNow t_servedAt hM _ _ hP hD hS _ (lv_sub hl [2, 3, 1, 0] rfl)
    · have hM := (o_if hM).1 c4
      refine lv_bipush (v := (-3)) hx hb dX9_noon_22 (by decide) ?_
      have hM := (Option.some.inj hM)
      subst hM
      exact rt_i hx hb hr hlocks hP hD hS dX9_noon_24
  · have hM := (o_if hM).1 c3
    refine lv_bipush (v := (-2)) hx hb dX9_noon_12 (by decide) ?_
    have hM := (Option.some.inj hM)
    subst hM
    exact rt_i hx hb hr hlocks hP hD hS dX9_noon_14

/-! ===== TurnQueueModel.begin ===== -/
abbrev w_Mo_begin (cI cJ cS : ClassId) (q_t : Nat) (q_t_kindOf : Nat) (q_t_comes : Nat) (q_t_wants : Nat) (q_t_runs : Nat) (q_t_readKind : Nat) (q_t_readComes : Nat) (q_t_readWants : Nat) (q_t_queueNow : Nat) (q_t_servedAt : Nat) (q_t_comesWas : Nat) (q_t_readingOf : Nat) (q_t_readingAt : Nat) (q_t_sheetSize : Nat) (q_t_sheetLane : Nat) (q_t_sheet : Nat) (q_t_hands : Nat) (t_fault : Int32) (t_persons : Int32) (t_law : Int32) (t_bellSet : Int64) (t_readAt : Int32) (t_readLaw : Int32) (t_readMany : Int32) (t_queueMany : Int32) (t_servedNow : Int32) (t_doneAt : Int32) (t_readings : Int32) (t_whichMany : Int32) (t_whichOne : Int32) (t_whichTwo : Int32) (t_traceNow : Int32) (t_servedAt : Nat → Int32) : va_W := [(q_t, .inr (8, [.int t_fault, .int t_persons, .int t_law, .ref q_t_kindOf, .ref q_t_comes, .ref q_t_wants, .ref q_t_runs, .long t_bellSet, .int t_readAt, .int t_readLaw, .int t_readMany, .ref q_t_readKind, .ref q_t_readComes, .ref q_t_readWants, .ref q_t_queueNow, .int t_queueMany, .int t_servedNow, .int t_doneAt, .ref q_t_servedAt, .ref q_t_comesWas, .int t_readings, .ref q_t_readingOf, .ref q_t_readingAt, .int t_whichMany, .int t_whichOne, .int t_whichTwo, .ref q_t_sheetSize, .ref q_t_sheetLane, .ref q_t_sheet, .ref q_t_hands, .int t_traceNow])), (q_t_servedAt, ar cI 7 t_servedAt)]
abbrev rm_Mo_begin : Room := { frames := 0, cells := 0, slots := 0, locals := 0 }
noncomputable def Mo_begin_b13 (x1 : Int32) (t_queueMany : Int32) (t_servedNow : Int32) (t_servedAt : Nat → Int32) : Option ((Int32 × Int32 × Int32 × (Nat → Int32)) ⊕ (Int32 × Int32 × (Nat → Int32))) :=
  if 7 ≤ x1 then
    some (.inr (t_queueMany, t_servedNow, t_servedAt))
  else
    if ck x1 7 = true then
      lt (x1 + 1) fun y3 =>
      some (.inl (y3, t_queueMany, t_servedNow, upd t_servedAt x1.toNatClampNeg (-9)))
    else none
noncomputable def Mo_begin_s13 : (Int32 × Int32 × Int32 × (Nat → Int32)) → Option ((Int32 × Int32 × Int32 × (Nat → Int32)) ⊕ (Int32 × Int32 × (Nat → Int32))) := fun x => Mo_begin_b13 x.1 x.2.1 x.2.2.1 x.2.2.2
noncomputable def Mo_begin_l13 (x1 : Int32) (t_queueMany : Int32) (t_servedNow : Int32) (t_servedAt : Nat → Int32) : Option (Int32 × Int32 × (Nat → Int32)) := fin (Mo_begin_s13) (x1, t_queueMany, t_servedNow, t_servedAt)
noncomputable def Mo_begin (t_queueMany : Int32) (t_servedNow : Int32) (t_servedAt : Nat → Int32) : Option (Int32 × Int32 × (Nat → Int32)) :=
  Mo_begin_l13 0 0 (-9) t_servedAt
theorem Mo_begin_l13_eq (x1 : Int32) (t_queueMany : Int32) (t_servedNow : Int32) (t_servedAt : Nat → Int32) : Mo_begin_l13 x1 t_queueMany t_servedNow t_servedAt = (Mo_begin_b13 x1 t_queueMany t_servedNow t_servedAt).bind (sg (fin (Mo_begin_s13))) := by
  unfold Mo_begin_l13
  exact fin_eq _ _
theorem Mo_begin_l13_fd (x1 : Int32) (t_queueMany : Int32) (t_servedNow : Int32) (t_servedAt : Nat → Int32) : fin (Mo_begin_s13) (x1, t_queueMany, t_servedNow, t_servedAt) = Mo_begin_l13 x1 t_queueMany t_servedNow t_servedAt := rfl
set_option maxRecDepth 100000 in
set_option maxHeartbeats 4000000 in
theorem c_Mo_begin (l : Launch) (D : va_G) (cI cJ cS : ClassId) (q_t q_t_kindOf q_t_comes q_t_wants q_t_runs q_t_readKind q_t_readComes q_t_readWants q_t_queueNow q_t_servedAt q_t_comesWas q_t_readingOf q_t_readingAt q_t_sheetSize q_t_sheetLane q_t_sheet q_t_hands : Nat) (t_fault : Int32) (t_persons : Int32) (t_law : Int32) (t_bellSet : Int64) (t_readAt : Int32) (t_readLaw : Int32) (t_readMany : Int32) (t_queueMany : Int32) (t_servedNow : Int32) (t_doneAt : Int32) (t_readings : Int32) (t_whichMany : Int32) (t_whichOne : Int32) (t_whichTwo : Int32) (t_traceNow : Int32) (t_servedAt : Nat → Int32) (o : Int32 × Int32 × (Nat → Int32)) (hM : Mo_begin t_queueMany t_servedNow t_servedAt = some o) : Cv l yX9_begin wsX9_begin rm_Mo_begin D cI cJ cS [.ref q_t] (w_Mo_begin cI cJ cS q_t q_t_kindOf q_t_comes q_t_wants q_t_runs q_t_readKind q_t_readComes q_t_readWants q_t_queueNow q_t_servedAt q_t_comesWas q_t_readingOf q_t_readingAt q_t_sheetSize q_t_sheetLane q_t_sheet q_t_hands t_fault t_persons t_law t_bellSet t_readAt t_readLaw t_readMany t_queueMany t_servedNow t_doneAt t_readings t_whichMany t_whichOne t_whichTwo t_traceNow t_servedAt) (w_Mo_begin cI cJ cS q_t q_t_kindOf q_t_comes q_t_wants q_t_runs q_t_readKind q_t_readComes q_t_readWants q_t_queueNow q_t_servedAt q_t_comesWas q_t_readingOf q_t_readingAt q_t_sheetSize q_t_sheetLane q_t_sheet q_t_hands t_fault t_persons t_law t_bellSet t_readAt t_readLaw t_readMany o.1 o.2.1 t_doneAt t_readings t_whichMany t_whichOne t_whichTwo t_traceNow o.2.2) := by
  refine Cv.of (cc := cX9_begin) (maxL := 2) (ret := none) (by decide) rfl (Nat.le_of_ble_eq_true rfl) ?_
  intro p e s m args below meth c A ls hE
  obtain ⟨hx, hb, hr, hml, hown, hts, hlocks, hK, hA, hP, hD, hS, hl⟩ := hE
  have hown : s.vm.findClass RX9 = some m.cls := hown
  have hl : lv_has ls 2 [(0, .ref q_t)] := hl
  have iX9 : ∀ w ∈ u_ws RX9 TX9 31, w ∈ wsX9_begin := by decide +kernel
  have k0 := hts (.fieldLink RX9 140 "TurnQueueModel" "queueMany" "I") (by decide +kernel)
  have k1 := hts (.fieldLink RX9 143 "TurnQueueModel" "servedNow" "I") (by decide +kernel)
  have k2 := hts (.fieldLink RX9 34 "TurnQueueModel" "servedAt" "[I") (by decide +kernel)
  have L13 : ∀ n : Nat, (∀ (x1 : Int32) (t_queueMany : Int32) (t_servedNow : Int32) (t_servedAt : Nat → Int32), itr (Mo_begin_s13) n (x1, t_queueMany, t_servedNow, t_servedAt) = some o → ∀ (H : Heap) (locs : List Loc), va_P D vwCl (w_Mo_begin cI cJ cS q_t q_t_kindOf q_t_comes q_t_wants q_t_runs q_t_readKind q_t_readComes q_t_readWants q_t_queueNow q_t_servedAt q_t_comesWas q_t_readingOf q_t_readingAt q_t_sheetSize q_t_sheetLane q_t_sheet q_t_hands t_fault t_persons t_law t_bellSet t_readAt t_readLaw t_readMany t_queueMany t_servedNow t_doneAt t_readings t_whichMany t_whichOne t_whichTwo t_traceNow t_servedAt) H → va_D A (w_Mo_begin cI cJ cS q_t q_t_kindOf q_t_comes q_t_wants q_t_runs q_t_readKind q_t_readComes q_t_readWants q_t_queueNow q_t_servedAt q_t_comesWas q_t_readingOf q_t_readingAt q_t_sheetSize q_t_sheetLane q_t_sheet q_t_hands t_fault t_persons t_law t_bellSet t_readAt t_readLaw t_readMany t_queueMany t_servedNow t_doneAt t_readings t_whichMany t_whichOne t_whichTwo t_traceNow t_servedAt) → va_S A s.heap H locs → ∀ ls : Array Slot, lv_has ls 2 [(0, .ref q_t), (1, .int x1)] → W p l e (headSpec wsX9_begin rm_Mo_begin).room s m args below meth c H locs 0 0 (MQ below (CQv D (w_Mo_begin cI cJ cS q_t q_t_kindOf q_t_comes q_t_wants q_t_runs q_t_readKind q_t_readComes q_t_readWants q_t_queueNow q_t_servedAt q_t_comesWas q_t_readingOf q_t_readingAt q_t_sheetSize q_t_sheetLane q_t_sheet q_t_hands t_fault t_persons t_law t_bellSet t_readAt t_readLaw t_readMany o.1 o.2.1 t_doneAt t_readings t_whichMany t_whichOne t_whichTwo t_traceNow o.2.2) A) args s 0 0 A) (F0 m 13 ls [])) := by
    intro n
    induction n with
    | zero => exact fun _ _ _ _ hM => (itr_0 hM).elim
    | succ n ih =>
      intro x1 t_queueMany t_servedNow t_servedAt hM H locs hP hD hS ls hl
      have hM : (Mo_begin_b13 x1 t_queueMany t_servedNow t_servedAt).bind (sg (itr (Mo_begin_s13) n)) = some o := hM
      unfold Mo_begin_b13 at hM
      refine lv_iload_n hx hb dX9_begin_13 rfl (lv_at hl 1 rfl) ?_
      refine lv_bipush (v := 7) hx hb dX9_begin_14 (by decide) ?_
      refine lv_icmp_ge (tgt := 33) hx hb dX9_begin_16 (by decide) (fun c1 => ?_) (fun c1 => ?_)
      · have hM := (s_if hM).1 c1
        have hM := (Option.some.inj (s_rt hM))
        subst hM
        exact rt_v hx hb hr hlocks hP hD hS dX9_begin_33
      · have hM := (s_if hM).2 c1
        refine lv_aload_n hx hb dX9_begin_19 rfl (lv_at hl 0 rfl) ?_
        refine va_get (ci := 8) (v := .ref q_t_servedAt) (C := RX9) (T := TX9) (N := 31) hx hb hts iX9 hown hK.1 hP 0 rfl rfl 18 (Nat.le_of_ble_eq_true rfl) k2 (fun _ h9 => h9) rfl dX9_begin_20 ?_
        refine lv_iload_n hx hb dX9_begin_23 rfl (lv_at hl 1 rfl) ?_
        refine lv_bipush (v := (-9)) hx hb dX9_begin_24 (by decide) ?_
        obtain ⟨h2, hM⟩ := s_ck hM
        refine va_iast hx hb hK.1 hP hD hS 1 0 rfl rfl h2 dX9_begin_26 (fun H locs hP hD hS => ?_)
        have hP : va_P D vwCl (w_Mo_begin cI cJ cS q_t q_t_kindOf q_t_comes q_t_wants q_t_runs q_t_readKind q_t_readComes q_t_readWants q_t_queueNow q_t_servedAt q_t_comesWas q_t_readingOf q_t_readingAt q_t_sheetSize q_t_sheetLane q_t_sheet q_t_hands t_fault t_persons t_law t_bellSet t_readAt t_readLaw t_readMany t_queueMany t_servedNow t_doneAt t_readings t_whichMany t_whichOne t_whichTwo t_traceNow (upd t_servedAt x1.toNatClampNeg (-9))) H := hP
        have hD : va_D A (w_Mo_begin cI cJ cS q_t q_t_kindOf q_t_comes q_t_wants q_t_runs q_t_readKind q_t_readComes q_t_readWants q_t_queueNow q_t_servedAt q_t_comesWas q_t_readingOf q_t_readingAt q_t_sheetSize q_t_sheetLane q_t_sheet q_t_hands t_fault t_persons t_law t_bellSet t_readAt t_readLaw t_readMany t_queueMany t_servedNow t_doneAt t_readings t_whichMany t_whichOne t_whichTwo t_traceNow (upd t_servedAt x1.toNatClampNeg (-9))) := hD
        obtain ⟨y3, ey3⟩ : ∃ y : Int32, y = x1 + 1 := ⟨_, rfl⟩
        have hM := s_lt hM y3 ey3
        refine lv_iinc (v := y3) (lv' := [(1, .int y3), (0, .ref q_t)]) hx hb dX9_begin_27 hl (k := 1) rfl (by rw [ey3]; rfl) (Nat.le_of_ble_eq_true rfl) rfl (fun ls hl => ?_)
        refine lv_goto (tgt := 13) hx hb dX9_begin_30 (by decide) ?_
        exact ih y3 t_queueMany t_servedNow (upd t_servedAt x1.toNatClampNeg (-9)) (s_jp hM) _ _ hP hD hS _ (lv_sub hl [1, 0] rfl)
  have J13 : ∀ (x1 : Int32) (t_queueMany : Int32) (t_servedNow : Int32) (t_servedAt : Nat → Int32), Mo_begin_l13 x1 t_queueMany t_servedNow t_servedAt = some o → ∀ (H : Heap) (locs : List Loc), va_P D vwCl (w_Mo_begin cI cJ cS q_t q_t_kindOf q_t_comes q_t_wants q_t_runs q_t_readKind q_t_readComes q_t_readWants q_t_queueNow q_t_servedAt q_t_comesWas q_t_readingOf q_t_readingAt q_t_sheetSize q_t_sheetLane q_t_sheet q_t_hands t_fault t_persons t_law t_bellSet t_readAt t_readLaw t_readMany t_queueMany t_servedNow t_doneAt t_readings t_whichMany t_whichOne t_whichTwo t_traceNow t_servedAt) H → va_D A (w_Mo_begin cI cJ cS q_t q_t_kindOf q_t_comes q_t_wants q_t_runs q_t_readKind q_t_readComes q_t_readWants q_t_queueNow q_t_servedAt q_t_comesWas q_t_readingOf q_t_readingAt q_t_sheetSize q_t_sheetLane q_t_sheet q_t_hands t_fault t_persons t_law t_bellSet t_readAt t_readLaw t_readMany t_queueMany t_servedNow t_doneAt t_readings t_whichMany t_whichOne t_whichTwo t_traceNow t_servedAt) → va_S A s.heap H locs → ∀ ls : Array Slot, lv_has ls 2 [(0, .ref q_t), (1, .int x1)] → W p l e (headSpec wsX9_begin rm_Mo_begin).room s m args below meth c H locs 0 0 (MQ below (CQv D (w_Mo_begin cI cJ cS q_t q_t_kindOf q_t_comes q_t_wants q_t_runs q_t_readKind q_t_readComes q_t_readWants q_t_queueNow q_t_servedAt q_t_comesWas q_t_readingOf q_t_readingAt q_t_sheetSize q_t_sheetLane q_t_sheet q_t_hands t_fault t_persons t_law t_bellSet t_readAt t_readLaw t_readMany o.1 o.2.1 t_doneAt t_readings t_whichMany t_whichOne t_whichTwo t_traceNow o.2.2) A) args s 0 0 A) (F0 m 13 ls []) := by
    intro x1 t_queueMany t_servedNow t_servedAt hM
    unfold Mo_begin_l13 at hM
    obtain ⟨n0, hM⟩ := fin_some hM
    exact (L13 n0) x1 t_queueMany t_servedNow t_servedAt hM
  unfold Mo_begin at hM
  refine lv_aload_n hx hb dX9_begin_0 rfl (lv_at hl 0 rfl) ?_
  refine lv_iconst (v := 0) hx hb dX9_begin_1 (by decide) ?_
  refine va_put (ci := 8) (v := .int 0) (ty := .int) (C := RX9) (T := TX9) (N := 31) hx hb hts iX9 tyX9 tyX9_ok nmX9 hown hK.1 hP hD hS 0 rfl rfl 15 (Nat.le_of_ble_eq_true rfl) k0 (fun _ h9 => h9) rfl (tyX9_ok 15 (Nat.le_of_ble_eq_true rfl)) rfl rfl (Nat.le_of_ble_eq_true rfl) dX9_begin_2 (fun H locs hP hD hS => ?_)
  have hP : va_P D vwCl (w_Mo_begin cI cJ cS q_t q_t_kindOf q_t_comes q_t_wants q_t_runs q_t_readKind q_t_readComes q_t_readWants q_t_queueNow q_t_servedAt q_t_comesWas q_t_readingOf q_t_readingAt q_t_sheetSize q_t_sheetLane q_t_sheet q_t_hands t_fault t_persons t_law t_bellSet t_readAt t_readLaw t_readMany 0 t_servedNow t_doneAt t_readings t_whichMany t_whichOne t_whichTwo t_traceNow t_servedAt) H := hP
  have hD : va_D A (w_Mo_begin cI cJ cS q_t q_t_kindOf q_t_comes q_t_wants q_t_runs q_t_readKind q_t_readComes q_t_readWants q_t_queueNow q_t_servedAt q_t_comesWas q_t_readingOf q_t_readingAt q_t_sheetSize q_t_sheetLane q_t_sheet q_t_hands t_fault t_persons t_law t_bellSet t_readAt t_readLaw t_readMany 0 t_servedNow t_doneAt t_readings t_whichMany t_whichOne t_whichTwo t_traceNow t_servedAt) := hD
  refine lv_aload_n hx hb dX9_begin_5 rfl (lv_at hl 0 rfl) ?_
  refine lv_bipush (v := (-9)) hx hb dX9_begin_6 (by decide) ?_
  refine va_put (ci := 8) (v := .int (-9)) (ty := .int) (C := RX9) (T := TX9) (N := 31) hx hb hts iX9 tyX9 tyX9_ok nmX9 hown hK.1 hP hD hS 0 rfl rfl 16 (Nat.le_of_ble_eq_true rfl) k1 (fun _ h9 => h9) rfl (tyX9_ok 16 (Nat.le_of_ble_eq_true rfl)) rfl rfl (Nat.le_of_ble_eq_true rfl) dX9_begin_8 (fun H locs hP hD hS => ?_)
  have hP : va_P D vwCl (w_Mo_begin cI cJ cS q_t q_t_kindOf q_t_comes q_t_wants q_t_runs q_t_readKind q_t_readComes q_t_readWants q_t_queueNow q_t_servedAt q_t_comesWas q_t_readingOf q_t_readingAt q_t_sheetSize q_t_sheetLane q_t_sheet q_t_hands t_fault t_persons t_law t_bellSet t_readAt t_readLaw t_readMany 0 (-9) t_doneAt t_readings t_whichMany t_whichOne t_whichTwo t_traceNow t_servedAt) H := hP
  have hD : va_D A (w_Mo_begin cI cJ cS q_t q_t_kindOf q_t_comes q_t_wants q_t_runs q_t_readKind q_t_readComes q_t_readWants q_t_queueNow q_t_servedAt q_t_comesWas q_t_readingOf q_t_readingAt q_t_sheetSize q_t_sheetLane q_t_sheet q_t_hands t_fault t_persons t_law t_bellSet t_readAt t_readLaw t_readMany 0 (-9) t_doneAt t_readings t_whichMany t_whichOne t_whichTwo t_traceNow t_servedAt) := hD
  refine lv_iconst (v := 0) hx hb dX9_begin_11 (by decide) ?_
  refine lv_istore_n (lv' := [(1, .int 0), (0, .ref q_t)]) hx hb dX9_begin_12 rfl hl (Nat.le_of_ble_eq_true rfl) rfl (fun ls hl => ?_)
  exact J13 0 0 (-9) t_servedAt hM _ _ hP hD hS _ (lv_sub hl [1, 0] rfl)
/-! ===== TurnQueueModel.placeOf ===== -/
abbrev w_Mo_placeOf (cI cJ cS : ClassId) (q_t : Nat) (q_t_kindOf : Nat) (q_t_comes : Nat) (q_t_wants : Nat) (q_t_runs : Nat) (q_t_readKind : Nat) (q_t_readComes : Nat) (q_t_readWants : Nat) (q_t_queueNow : Nat) (q_t_servedAt : Nat) (q_t_comesWas : Nat) (q_t_readingOf : Nat) (q_t_readingAt : Nat) (q_t_sheetSize : Nat) (q_t_sheetLane : Nat) (q_t_sheet : Nat) (q_t_hands : Nat) (t_fault : Int32) (t_persons : Int32) (t_law : Int32) (t_bellSet : Int64) (t_readAt : Int32) (t_readLaw : Int32) (t_readMany : Int32) (t_queueMany : Int32) (t_servedNow : Int32) (t_doneAt : Int32) (t_readings : Int32) (t_whichMany : Int32) (t_whichOne : Int32) (t_whichTwo : Int32) (t_traceNow : Int32) (t_queueNow : Nat → Int32) : va_W := [(q_t, .inr (8, [.int t_fault, .int t_persons, .int t_law, .ref q_t_kindOf, .ref q_t_comes, .ref q_t_wants, .ref q_t_runs, .long t_bellSet, .int t_readAt, .int t_readLaw, .int t_readMany, .ref q_t_readKind, .ref q_t_readComes, .ref q_t_readWants, .ref q_t_queueNow, .int t_queueMany, .int t_servedNow, .int t_doneAt, .ref q_t_servedAt, .ref q_t_comesWas, .int t_readings, .ref q_t_readingOf, .ref q_t_readingAt, .int t_whichMany, .int t_whichOne, .int t_whichTwo, .ref q_t_sheetSize, .ref q_t_sheetLane, .ref q_t_sheet, .ref q_t_hands, .int t_traceNow])), (q_t_queueNow, ar cI 7 t_queueNow)]
abbrev rm_Mo_placeOf : Room := { frames := 0, cells := 0, slots := 0, locals := 0 }
noncomputable def Mo_placeOf_b2 (p_p : Int32) (t_queueMany : Int32) (t_queueNow : Nat → Int32) (x2 : Int32) : Option ((Int32) ⊕ (Int32)) :=
  if t_queueMany ≤ x2 then
    some (.inr (-9))
  else
    if ck x2 7 = true then
      if (t_queueNow x2.toNatClampNeg) = p_p then
        some (.inr x2)
      else
        lt (x2 + 1) fun y4 =>
        some (.inl (y4))
    else none
noncomputable def Mo_placeOf_s2 (p_p : Int32) (t_queueMany : Int32) (t_queueNow : Nat → Int32) : (Int32) → Option ((Int32) ⊕ (Int32)) := fun x => Mo_placeOf_b2 p_p t_queueMany t_queueNow x
noncomputable def Mo_placeOf_l2 (p_p : Int32) (t_queueMany : Int32) (t_queueNow : Nat → Int32) (x2 : Int32) : Option (Int32) := fin (Mo_placeOf_s2 p_p t_queueMany t_queueNow) (x2)
noncomputable def Mo_placeOf (p_p : Int32) (t_queueMany : Int32) (t_queueNow : Nat → Int32) : Option (Int32) :=
  Mo_placeOf_l2 p_p t_queueMany t_queueNow 0
theorem Mo_placeOf_l2_eq (p_p : Int32) (t_queueMany : Int32) (t_queueNow : Nat → Int32) (x2 : Int32) : Mo_placeOf_l2 p_p t_queueMany t_queueNow x2 = (Mo_placeOf_b2 p_p t_queueMany t_queueNow x2).bind (sg (fin (Mo_placeOf_s2 p_p t_queueMany t_queueNow))) := by
  unfold Mo_placeOf_l2
  exact fin_eq _ _
theorem Mo_placeOf_l2_fd (p_p : Int32) (t_queueMany : Int32) (t_queueNow : Nat → Int32) (x2 : Int32) : fin (Mo_placeOf_s2 p_p t_queueMany t_queueNow) (x2) = Mo_placeOf_l2 p_p t_queueMany t_queueNow x2 := rfl
set_option maxRecDepth 100000 in
set_option maxHeartbeats 4000000 in
theorem c_Mo_placeOf (l : Launch) (D : va_G) (cI cJ cS : ClassId) (q_t q_t_kindOf q_t_comes q_t_wants q_t_runs q_t_readKind q_t_readComes q_t_readWants q_t_queueNow q_t_servedAt q_t_comesWas q_t_readingOf q_t_readingAt q_t_sheetSize q_t_sheetLane q_t_sheet q_t_hands : Nat) (t_fault : Int32) (t_persons : Int32) (t_law : Int32) (t_bellSet : Int64) (t_readAt : Int32) (t_readLaw : Int32) (t_readMany : Int32) (t_queueMany : Int32) (t_servedNow : Int32) (t_doneAt : Int32) (t_readings : Int32) (t_whichMany : Int32) (t_whichOne : Int32) (t_whichTwo : Int32) (t_traceNow : Int32) (t_queueNow : Nat → Int32) (p_p : Int32) (o : Int32) (hM : Mo_placeOf p_p t_queueMany t_queueNow = some o) : Ci l yX9_placeOf wsX9_placeOf rm_Mo_placeOf D cI cJ cS [.ref q_t, .int p_p] (w_Mo_placeOf cI cJ cS q_t q_t_kindOf q_t_comes q_t_wants q_t_runs q_t_readKind q_t_readComes q_t_readWants q_t_queueNow q_t_servedAt q_t_comesWas q_t_readingOf q_t_readingAt q_t_sheetSize q_t_sheetLane q_t_sheet q_t_hands t_fault t_persons t_law t_bellSet t_readAt t_readLaw t_readMany t_queueMany t_servedNow t_doneAt t_readings t_whichMany t_whichOne t_whichTwo t_traceNow t_queueNow) (w_Mo_placeOf cI cJ cS q_t q_t_kindOf q_t_comes q_t_wants q_t_runs q_t_readKind q_t_readComes q_t_readWants q_t_queueNow q_t_servedAt q_t_comesWas q_t_readingOf q_t_readingAt q_t_sheetSize q_t_sheetLane q_t_sheet q_t_hands t_fault t_persons t_law t_bellSet t_readAt t_readLaw t_readMany t_queueMany t_servedNow t_doneAt t_readings t_whichMany t_whichOne t_whichTwo t_traceNow t_queueNow) o := by
  refine Ci.of (cc := cX9_placeOf) (maxL := 3) (ret := (some .int)) (by decide) rfl (Nat.le_of_ble_eq_true rfl) ?_
  intro p e s m args below meth c A ls hE
  obtain ⟨hx, hb, hr, hml, hown, hts, hlocks, hK, hA, hP, hD, hS, hl⟩ := hE
  have hown : s.vm.findClass RX9 = some m.cls := hown
  have hl : lv_has ls 3 [(0, .ref q_t), (1, .int p_p)] := hl
  have iX9 : ∀ w ∈ u_ws RX9 TX9 31, w ∈ wsX9_placeOf := by decide +kernel
  have k0 := hts (.fieldLink RX9 140 "TurnQueueModel" "queueMany" "I") (by decide +kernel)
  have k1 := hts (.fieldLink RX9 31 "TurnQueueModel" "queueNow" "[I") (by decide +kernel)
  have L2 : ∀ n : Nat, (∀ (x2 : Int32), itr (Mo_placeOf_s2 p_p t_queueMany t_queueNow) n (x2) = some o → ∀ (H : Heap) (locs : List Loc), va_P D vwCl (w_Mo_placeOf cI cJ cS q_t q_t_kindOf q_t_comes q_t_wants q_t_runs q_t_readKind q_t_readComes q_t_readWants q_t_queueNow q_t_servedAt q_t_comesWas q_t_readingOf q_t_readingAt q_t_sheetSize q_t_sheetLane q_t_sheet q_t_hands t_fault t_persons t_law t_bellSet t_readAt t_readLaw t_readMany t_queueMany t_servedNow t_doneAt t_readings t_whichMany t_whichOne t_whichTwo t_traceNow t_queueNow) H → va_D A (w_Mo_placeOf cI cJ cS q_t q_t_kindOf q_t_comes q_t_wants q_t_runs q_t_readKind q_t_readComes q_t_readWants q_t_queueNow q_t_servedAt q_t_comesWas q_t_readingOf q_t_readingAt q_t_sheetSize q_t_sheetLane q_t_sheet q_t_hands t_fault t_persons t_law t_bellSet t_readAt t_readLaw t_readMany t_queueMany t_servedNow t_doneAt t_readings t_whichMany t_whichOne t_whichTwo t_traceNow t_queueNow) → va_S A s.heap H locs → ∀ ls : Array Slot, lv_has ls 3 [(0, .ref q_t), (1, .int p_p), (2, .int x2)] → W p l e (headSpec wsX9_placeOf rm_Mo_placeOf).room s m args below meth c H locs 0 0 (MQ below (CQi D (w_Mo_placeOf cI cJ cS q_t q_t_kindOf q_t_comes q_t_wants q_t_runs q_t_readKind q_t_readComes q_t_readWants q_t_queueNow q_t_servedAt q_t_comesWas q_t_readingOf q_t_readingAt q_t_sheetSize q_t_sheetLane q_t_sheet q_t_hands t_fault t_persons t_law t_bellSet t_readAt t_readLaw t_readMany t_queueMany t_servedNow t_doneAt t_readings t_whichMany t_whichOne t_whichTwo t_traceNow t_queueNow) A o) args s 0 0 A) (F0 m 2 ls [])) := by
    intro n
    induction n with
    | zero => exact fun _ hM => (itr_0 hM).elim
    | succ n ih =>
      intro x2 hM H locs hP hD hS ls hl
      have hM : (Mo_placeOf_b2 p_p t_queueMany t_queueNow x2).bind (sg (itr (Mo_placeOf_s2 p_p t_queueMany t_queueNow) n)) = some o := hM
      unfold Mo_placeOf_b2 at hM
      refine lv_iload_n hx hb dX9_placeOf_2 rfl (lv_at hl 2 rfl) ?_
      refine lv_aload_n hx hb dX9_placeOf_3 rfl (lv_at hl 0 rfl) ?_
      refine va_get (ci := 8) (v := .int t_queueMany) (C := RX9) (T := TX9) (N := 31) hx hb hts iX9 hown hK.1 hP 0 rfl rfl 15 (Nat.le_of_ble_eq_true rfl) k0 (fun _ h9 => h9) rfl dX9_placeOf_4 ?_
      refine lv_icmp_ge (tgt := 28) hx hb dX9_placeOf_7 (by decide) (fun c1 => ?_) (fun c1 => ?_)
      · have hM := (s_if hM).1 c1
        refine lv_bipush (v := (-9)) hx hb dX9_placeOf_28 (by decide) ?_
        have hM := (Option.some.inj (s_rt hM))
        subst hM
        exact rt_i hx hb hr hlocks hP hD hS dX9_placeOf_30
      · have hM := (s_if hM).2 c1
        refine lv_aload_n hx hb dX9_placeOf_10 rfl (lv_at hl 0 rfl) ?_
        refine va_get (ci := 8) (v := .ref q_t_queueNow) (C := RX9) (T := TX9) (N := 31) hx hb hts iX9 hown hK.1 hP 0 rfl rfl 14 (Nat.le_of_ble_eq_true rfl) k1 (fun _ h9 => h9) rfl dX9_placeOf_11 ?_
        refine lv_iload_n hx hb dX9_placeOf_14 rfl (lv_at hl 2 rfl) ?_
        obtain ⟨h2, hM⟩ := s_ck hM
        refine va_iald hx hb hK.1 hP 1 0 rfl rfl h2 dX9_placeOf_15 ?_
        refine lv_iload_n hx hb dX9_placeOf_16 rfl (lv_at hl 1 rfl) ?_
        refine lv_icmp_ne (tgt := 22) hx hb dX9_placeOf_17 (by decide) (fun c3 => ?_) (fun c3 => ?_)
        · have hM := (s_if hM).2 c3
          obtain ⟨y4, ey4⟩ : ∃ y : Int32, y = x2 + 1 := ⟨_, rfl⟩
          have hM := s_lt hM y4 ey4
          refine lv_iinc (v := y4) (lv' := [(2, .int y4), (0, .ref q_t), (1, .int p_p)]) hx hb dX9_placeOf_22 hl (k := 2) rfl (by rw [ey4]; rfl) (Nat.le_of_ble_eq_true rfl) rfl (fun ls hl => ?_)
          refine lv_goto (tgt := 2) hx hb dX9_placeOf_25 (by decide) ?_
          exact ih y4 (s_jp hM) _ _ hP hD hS _ (lv_sub hl [1, 2, 0] rfl)
        · have hM := (s_if hM).1 c3
          refine lv_iload_n hx hb dX9_placeOf_20 rfl (lv_at hl 2 rfl) ?_
          have hM := (Option.some.inj (s_rt hM))
          subst hM
          exact rt_i hx hb hr hlocks hP hD hS dX9_placeOf_21
  have J2 : ∀ (x2 : Int32), Mo_placeOf_l2 p_p t_queueMany t_queueNow x2 = some o → ∀ (H : Heap) (locs : List Loc), va_P D vwCl (w_Mo_placeOf cI cJ cS q_t q_t_kindOf q_t_comes q_t_wants q_t_runs q_t_readKind q_t_readComes q_t_readWants q_t_queueNow q_t_servedAt q_t_comesWas q_t_readingOf q_t_readingAt q_t_sheetSize q_t_sheetLane q_t_sheet q_t_hands t_fault t_persons t_law t_bellSet t_readAt t_readLaw t_readMany t_queueMany t_servedNow t_doneAt t_readings t_whichMany t_whichOne t_whichTwo t_traceNow t_queueNow) H → va_D A (w_Mo_placeOf cI cJ cS q_t q_t_kindOf q_t_comes q_t_wants q_t_runs q_t_readKind q_t_readComes q_t_readWants q_t_queueNow q_t_servedAt q_t_comesWas q_t_readingOf q_t_readingAt q_t_sheetSize q_t_sheetLane q_t_sheet q_t_hands t_fault t_persons t_law t_bellSet t_readAt t_readLaw t_readMany t_queueMany t_servedNow t_doneAt t_readings t_whichMany t_whichOne t_whichTwo t_traceNow t_queueNow) → va_S A s.heap H locs → ∀ ls : Array Slot, lv_has ls 3 [(0, .ref q_t), (1, .int p_p), (2, .int x2)] → W p l e (headSpec wsX9_placeOf rm_Mo_placeOf).room s m args below meth c H locs 0 0 (MQ below (CQi D (w_Mo_placeOf cI cJ cS q_t q_t_kindOf q_t_comes q_t_wants q_t_runs q_t_readKind q_t_readComes q_t_readWants q_t_queueNow q_t_servedAt q_t_comesWas q_t_readingOf q_t_readingAt q_t_sheetSize q_t_sheetLane q_t_sheet q_t_hands t_fault t_persons t_law t_bellSet t_readAt t_readLaw t_readMany t_queueMany t_servedNow t_doneAt t_readings t_whichMany t_whichOne t_whichTwo t_traceNow t_queueNow) A o) args s 0 0 A) (F0 m 2 ls []) := by
    intro x2 hM
    unfold Mo_placeOf_l2 at hM
    obtain ⟨n0, hM⟩ := fin_some hM
    exact (L2 n0) x2 hM
  unfold Mo_placeOf at hM
  refine lv_iconst (v := 0) hx hb dX9_placeOf_0 (by decide) ?_
  refine lv_istore_n (lv' := [(2, .int 0), (0, .ref q_t), (1, .int p_p)]) hx hb dX9_placeOf_1 rfl hl (Nat.le_of_ble_eq_true rfl) rfl (fun ls hl => ?_)
  exact J2 0 hM _ _ hP hD hS _ (lv_sub hl [1, 2, 0] rfl)
/-! ===== TurnQueueModel.takeOut ===== -/
abbrev w_Mo_takeOut (cI cJ cS : ClassId) (q_t : Nat) (q_t_kindOf : Nat) (q_t_comes : Nat) (q_t_wants : Nat) (q_t_runs : Nat) (q_t_readKind : Nat) (q_t_readComes : Nat) (q_t_readWants : Nat) (q_t_queueNow : Nat) (q_t_servedAt : Nat) (q_t_comesWas : Nat) (q_t_readingOf : Nat) (q_t_readingAt : Nat) (q_t_sheetSize : Nat) (q_t_sheetLane : Nat) (q_t_sheet : Nat) (q_t_hands : Nat) (t_fault : Int32) (t_persons : Int32) (t_law : Int32) (t_bellSet : Int64) (t_readAt : Int32) (t_readLaw : Int32) (t_readMany : Int32) (t_queueMany : Int32) (t_servedNow : Int32) (t_doneAt : Int32) (t_readings : Int32) (t_whichMany : Int32) (t_whichOne : Int32) (t_whichTwo : Int32) (t_traceNow : Int32) (t_queueNow : Nat → Int32) : va_W := [(q_t, .inr (8, [.int t_fault, .int t_persons, .int t_law, .ref q_t_kindOf, .ref q_t_comes, .ref q_t_wants, .ref q_t_runs, .long t_bellSet, .int t_readAt, .int t_readLaw, .int t_readMany, .ref q_t_readKind, .ref q_t_readComes, .ref q_t_readWants, .ref q_t_queueNow, .int t_queueMany, .int t_servedNow, .int t_doneAt, .ref q_t_servedAt, .ref q_t_comesWas, .int t_readings, .ref q_t_readingOf, .ref q_t_readingAt, .int t_whichMany, .int t_whichOne, .int t_whichTwo, .ref q_t_sheetSize, .ref q_t_sheetLane, .ref q_t_sheet, .ref q_t_hands, .int t_traceNow])), (q_t_queueNow, ar cI 7 t_queueNow)]
abbrev rm_Mo_takeOut : Room := { frames := 0, cells := 0, slots := 0, locals := 0 }
noncomputable def Mo_takeOut_b2 (p_place : Int32) (x2 : Int32) (t_queueMany : Int32) (t_queueNow : Nat → Int32) : Option ((Int32 × Int32 × (Nat → Int32)) ⊕ (Int32 × (Nat → Int32))) :=
  if t_queueMany ≤ (x2 + 1) then
    lt (t_queueMany - 1) fun y2 =>
    some (.inr (y2, t_queueNow))
  else
    if ck (x2 + 1) 7 = true then
      lt (t_queueNow (x2 + 1).toNatClampNeg) fun y4 =>
      if ck x2 7 = true then
        lt (x2 + 1) fun y6 =>
        some (.inl (y6, t_queueMany, upd t_queueNow x2.toNatClampNeg y4))
      else none
    else none
noncomputable def Mo_takeOut_s2 (p_place : Int32) : (Int32 × Int32 × (Nat → Int32)) → Option ((Int32 × Int32 × (Nat → Int32)) ⊕ (Int32 × (Nat → Int32))) := fun x => Mo_takeOut_b2 p_place x.1 x.2.1 x.2.2
noncomputable def Mo_takeOut_l2 (p_place : Int32) (x2 : Int32) (t_queueMany : Int32) (t_queueNow : Nat → Int32) : Option (Int32 × (Nat → Int32)) := fin (Mo_takeOut_s2 p_place) (x2, t_queueMany, t_queueNow)
noncomputable def Mo_takeOut (p_place : Int32) (t_queueMany : Int32) (t_queueNow : Nat → Int32) : Option (Int32 × (Nat → Int32)) :=
  Mo_takeOut_l2 p_place p_place t_queueMany t_queueNow
theorem Mo_takeOut_l2_eq (p_place : Int32) (x2 : Int32) (t_queueMany : Int32) (t_queueNow : Nat → Int32) : Mo_takeOut_l2 p_place x2 t_queueMany t_queueNow = (Mo_takeOut_b2 p_place x2 t_queueMany t_queueNow).bind (sg (fin (Mo_takeOut_s2 p_place))) := by
  unfold Mo_takeOut_l2
  exact fin_eq _ _
theorem Mo_takeOut_l2_fd (p_place : Int32) (x2 : Int32) (t_queueMany : Int32) (t_queueNow : Nat → Int32) : fin (Mo_takeOut_s2 p_place) (x2, t_queueMany, t_queueNow) = Mo_takeOut_l2 p_place x2 t_queueMany t_queueNow := rfl
set_option maxRecDepth 100000 in
set_option maxHeartbeats 4000000 in
theorem c_Mo_takeOut (l : Launch) (D : va_G) (cI cJ cS : ClassId) (q_t q_t_kindOf q_t_comes q_t_wants q_t_runs q_t_readKind q_t_readComes q_t_readWants q_t_queueNow q_t_servedAt q_t_comesWas q_t_readingOf q_t_readingAt q_t_sheetSize q_t_sheetLane q_t_sheet q_t_hands : Nat) (t_fault : Int32) (t_persons : Int32) (t_law : Int32) (t_bellSet : Int64) (t_readAt : Int32) (t_readLaw : Int32) (t_readMany : Int32) (t_queueMany : Int32) (t_servedNow : Int32) (t_doneAt : Int32) (t_readings : Int32) (t_whichMany : Int32) (t_whichOne : Int32) (t_whichTwo : Int32) (t_traceNow : Int32) (t_queueNow : Nat → Int32) (p_place : Int32) (o : Int32 × (Nat → Int32)) (hM : Mo_takeOut p_place t_queueMany t_queueNow = some o) : Cv l yX9_takeOut wsX9_takeOut rm_Mo_takeOut D cI cJ cS [.ref q_t, .int p_place] (w_Mo_takeOut cI cJ cS q_t q_t_kindOf q_t_comes q_t_wants q_t_runs q_t_readKind q_t_readComes q_t_readWants q_t_queueNow q_t_servedAt q_t_comesWas q_t_readingOf q_t_readingAt q_t_sheetSize q_t_sheetLane q_t_sheet q_t_hands t_fault t_persons t_law t_bellSet t_readAt t_readLaw t_readMany t_queueMany t_servedNow t_doneAt t_readings t_whichMany t_whichOne t_whichTwo t_traceNow t_queueNow) (w_Mo_takeOut cI cJ cS q_t q_t_kindOf q_t_comes q_t_wants q_t_runs q_t_readKind q_t_readComes q_t_readWants q_t_queueNow q_t_servedAt q_t_comesWas q_t_readingOf q_t_readingAt q_t_sheetSize q_t_sheetLane q_t_sheet q_t_hands t_fault t_persons t_law t_bellSet t_readAt t_readLaw t_readMany o.1 t_servedNow t_doneAt t_readings t_whichMany t_whichOne t_whichTwo t_traceNow o.2) := by
  refine Cv.of (cc := cX9_takeOut) (maxL := 3) (ret := none) (by decide) rfl (Nat.le_of_ble_eq_true rfl) ?_
  intro p e s m args below meth c A ls hE
  obtain ⟨hx, hb, hr, hml, hown, hts, hlocks, hK, hA, hP, hD, hS, hl⟩ := hE
  have hown : s.vm.findClass RX9 = some m.cls := hown
  have hl : lv_has ls 3 [(0, .ref q_t), (1, .int p_place)] := hl
  have iX9 : ∀ w ∈ u_ws RX9 TX9 31, w ∈ wsX9_takeOut := by decide +kernel
  have k0 := hts (.fieldLink RX9 140 "TurnQueueModel" "queueMany" "I") (by decide +kernel)
  have k1 := hts (.fieldLink RX9 31 "TurnQueueModel" "queueNow" "[I") (by decide +kernel)
  have L2 : ∀ n : Nat, (∀ (x2 : Int32) (t_queueMany : Int32) (t_queueNow : Nat → Int32), itr (Mo_takeOut_s2 p_place) n (x2, t_queueMany, t_queueNow) = some o → ∀ (H : Heap) (locs : List Loc), va_P D vwCl (w_Mo_takeOut cI cJ cS q_t q_t_kindOf q_t_comes q_t_wants q_t_runs q_t_readKind q_t_readComes q_t_readWants q_t_queueNow q_t_servedAt q_t_comesWas q_t_readingOf q_t_readingAt q_t_sheetSize q_t_sheetLane q_t_sheet q_t_hands t_fault t_persons t_law t_bellSet t_readAt t_readLaw t_readMany t_queueMany t_servedNow t_doneAt t_readings t_whichMany t_whichOne t_whichTwo t_traceNow t_queueNow) H → va_D A (w_Mo_takeOut cI cJ cS q_t q_t_kindOf q_t_comes q_t_wants q_t_runs q_t_readKind q_t_readComes q_t_readWants q_t_queueNow q_t_servedAt q_t_comesWas q_t_readingOf q_t_readingAt q_t_sheetSize q_t_sheetLane q_t_sheet q_t_hands t_fault t_persons t_law t_bellSet t_readAt t_readLaw t_readMany t_queueMany t_servedNow t_doneAt t_readings t_whichMany t_whichOne t_whichTwo t_traceNow t_queueNow) → va_S A s.heap H locs → ∀ ls : Array Slot, lv_has ls 3 [(0, .ref q_t), (2, .int x2)] → W p l e (headSpec wsX9_takeOut rm_Mo_takeOut).room s m args below meth c H locs 0 0 (MQ below (CQv D (w_Mo_takeOut cI cJ cS q_t q_t_kindOf q_t_comes q_t_wants q_t_runs q_t_readKind q_t_readComes q_t_readWants q_t_queueNow q_t_servedAt q_t_comesWas q_t_readingOf q_t_readingAt q_t_sheetSize q_t_sheetLane q_t_sheet q_t_hands t_fault t_persons t_law t_bellSet t_readAt t_readLaw t_readMany o.1 t_servedNow t_doneAt t_readings t_whichMany t_whichOne t_whichTwo t_traceNow o.2) A) args s 0 0 A) (F0 m 2 ls [])) := by
    intro n
    induction n with
    | zero => exact fun _ _ _ hM => (itr_0 hM).elim
    | succ n ih =>
      intro x2 t_queueMany t_queueNow hM H locs hP hD hS ls hl
      have hM : (Mo_takeOut_b2 p_place x2 t_queueMany t_queueNow).bind (sg (itr (Mo_takeOut_s2 p_place) n)) = some o := hM
      unfold Mo_takeOut_b2 at hM
      refine lv_iload_n hx hb dX9_takeOut_2 rfl (lv_at hl 1 rfl) ?_
      refine lv_iconst (v := 1) hx hb dX9_takeOut_3 (by decide) ?_
      refine lv_iadd hx hb dX9_takeOut_4 ?_
      refine lv_aload_n hx hb dX9_takeOut_5 rfl (lv_at hl 0 rfl) ?_
      refine va_get (ci := 8) (v := .int t_queueMany) (C := RX9) (T := TX9) (N := 31) hx hb hts iX9 hown hK.1 hP 0 rfl rfl 15 (Nat.le_of_ble_eq_true rfl) k0 (fun _ h9 => h9) rfl dX9_takeOut_6 ?_
      refine lv_icmp_ge (tgt := 32) hx hb dX9_takeOut_9 (by decide) (fun c1 => ?_) (fun c1 => ?_)
      · have hM := (s_if hM).1 c1
        refine lv_aload_n hx hb dX9_takeOut_32 rfl (lv_at hl 0 rfl) ?_
        refine lv_dup hx hb dX9_takeOut_33 rfl ?_
        refine va_get (ci := 8) (v := .int t_queueMany) (C := RX9) (T := TX9) (N := 31) hx hb hts iX9 hown hK.1 hP 0 rfl rfl 15 (Nat.le_of_ble_eq_true rfl) k0 (fun _ h9 => h9) rfl dX9_takeOut_34 ?_
        refine lv_iconst (v := 1) hx hb dX9_takeOut_37 (by decide) ?_
        refine lv_isub hx hb dX9_takeOut_38 ?_
        refine lv_topi (fun y2 ey2 => ?_)
        have hM := s_lt hM y2 ey2
        refine va_put (ci := 8) (v := .int y2) (ty := .int) (C := RX9) (T := TX9) (N := 31) hx hb hts iX9 tyX9 tyX9_ok nmX9 hown hK.1 hP hD hS 0 rfl rfl 15 (Nat.le_of_ble_eq_true rfl) k0 (fun _ h9 => h9) rfl (tyX9_ok 15 (Nat.le_of_ble_eq_true rfl)) rfl rfl (Nat.le_of_ble_eq_true rfl) dX9_takeOut_39 (fun H locs hP hD hS => ?_)
        have hP : va_P D vwCl (w_Mo_takeOut cI cJ cS q_t q_t_kindOf q_t_comes q_t_wants q_t_runs q_t_readKind q_t_readComes q_t_readWants q_t_queueNow q_t_servedAt q_t_comesWas q_t_readingOf q_t_readingAt q_t_sheetSize q_t_sheetLane q_t_sheet q_t_hands t_fault t_persons t_law t_bellSet t_readAt t_readLaw t_readMany y2 t_servedNow t_doneAt t_readings t_whichMany t_whichOne t_whichTwo t_traceNow t_queueNow) H := hP
        have hD : va_D A (w_Mo_takeOut cI cJ cS q_t q_t_kindOf q_t_comes q_t_wants q_t_runs q_t_readKind q_t_readComes q_t_readWants q_t_queueNow q_t_servedAt q_t_comesWas q_t_readingOf q_t_readingAt q_t_sheetSize q_t_sheetLane q_t_sheet q_t_hands t_fault t_persons t_law t_bellSet t_readAt t_readLaw t_readMany y2 t_servedNow t_doneAt t_readings t_whichMany t_whichOne t_whichTwo t_traceNow t_queueNow) := hD
        have hM := (Option.some.inj (s_rt hM))
        subst hM
        exact rt_v hx hb hr hlocks hP hD hS dX9_takeOut_42
      · have hM := (s_if hM).2 c1
        refine lv_aload_n hx hb dX9_takeOut_12 rfl (lv_at hl 0 rfl) ?_
        refine va_get (ci := 8) (v := .ref q_t_queueNow) (C := RX9) (T := TX9) (N := 31) hx hb hts iX9 hown hK.1 hP 0 rfl rfl 14 (Nat.le_of_ble_eq_true rfl) k1 (fun _ h9 => h9) rfl dX9_takeOut_13 ?_
        refine lv_iload_n hx hb dX9_takeOut_16 rfl (lv_at hl 1 rfl) ?_
        refine lv_aload_n hx hb dX9_takeOut_17 rfl (lv_at hl 0 rfl) ?_
        refine va_get (ci := 8) (v := .ref q_t_queueNow) (C := RX9) (T := TX9) (N := 31) hx hb hts iX9 hown hK.1 hP 0 rfl rfl 14 (Nat.le_of_ble_eq_true rfl) k1 (fun _ h9 => h9) rfl dX9_takeOut_18 ?_
        refine lv_iload_n hx hb dX9_takeOut_21 rfl (lv_at hl 1 rfl) ?_
        refine lv_iconst (v := 1) hx hb dX9_takeOut_22 (by decide) ?_
        refine lv_iadd hx hb dX9_takeOut_23 ?_
        obtain ⟨h3, hM⟩ := s_ck hM
        refine va_iald hx hb hK.1 hP 1 0 rfl rfl h3 dX9_takeOut_24 ?_
        refine lv_topi (fun y4 ey4 => ?_)
        have hM := s_lt hM y4 ey4
        obtain ⟨h5, hM⟩ := s_ck hM
        refine va_iast hx hb hK.1 hP hD hS 1 0 rfl rfl h5 dX9_takeOut_25 (fun H locs hP hD hS => ?_)
        have hP : va_P D vwCl (w_Mo_takeOut cI cJ cS q_t q_t_kindOf q_t_comes q_t_wants q_t_runs q_t_readKind q_t_readComes q_t_readWants q_t_queueNow q_t_servedAt q_t_comesWas q_t_readingOf q_t_readingAt q_t_sheetSize q_t_sheetLane q_t_sheet q_t_hands t_fault t_persons t_law t_bellSet t_readAt t_readLaw t_readMany t_queueMany t_servedNow t_doneAt t_readings t_whichMany t_whichOne t_whichTwo t_traceNow (upd t_queueNow x2.toNatClampNeg y4)) H := hP
        have hD : va_D A (w_Mo_takeOut cI cJ cS q_t q_t_kindOf q_t_comes q_t_wants q_t_runs q_t_readKind q_t_readComes q_t_readWants q_t_queueNow q_t_servedAt q_t_comesWas q_t_readingOf q_t_readingAt q_t_sheetSize q_t_sheetLane q_t_sheet q_t_hands t_fault t_persons t_law t_bellSet t_readAt t_readLaw t_readMany t_queueMany t_servedNow t_doneAt t_readings t_whichMany t_whichOne t_whichTwo t_traceNow (upd t_queueNow x2.toNatClampNeg y4)) := hD
        obtain ⟨y6, ey6⟩ : ∃ y : Int32, y = x2 + 1 := ⟨_, rfl⟩
        have hM := s_lt hM y6 ey6
        refine lv_iinc (v := y6) (lv' := [(2, .int y6), (0, .ref q_t)]) hx hb dX9_takeOut_26 hl (k := 1) rfl (by rw [ey6]; rfl) (Nat.le_of_ble_eq_true rfl) rfl (fun ls hl => ?_)
        refine lv_goto (tgt := 2) hx hb dX9_takeOut_29 (by decide) ?_
        exact ih y6 t_queueMany (upd t_queueNow x2.toNatClampNeg y4) (s_jp hM) _ _ hP hD hS _ (lv_sub hl [1, 0] rfl)
  have J2 : ∀ (x2 : Int32) (t_queueMany : Int32) (t_queueNow : Nat → Int32), Mo_takeOut_l2 p_place x2 t_queueMany t_queueNow = some o → ∀ (H : Heap) (locs : List Loc), va_P D vwCl (w_Mo_takeOut cI cJ cS q_t q_t_kindOf q_t_comes q_t_wants q_t_runs q_t_readKind q_t_readComes q_t_readWants q_t_queueNow q_t_servedAt q_t_comesWas q_t_readingOf q_t_readingAt q_t_sheetSize q_t_sheetLane q_t_sheet q_t_hands t_fault t_persons t_law t_bellSet t_readAt t_readLaw t_readMany t_queueMany t_servedNow t_doneAt t_readings t_whichMany t_whichOne t_whichTwo t_traceNow t_queueNow) H → va_D A (w_Mo_takeOut cI cJ cS q_t q_t_kindOf q_t_comes q_t_wants q_t_runs q_t_readKind q_t_readComes q_t_readWants q_t_queueNow q_t_servedAt q_t_comesWas q_t_readingOf q_t_readingAt q_t_sheetSize q_t_sheetLane q_t_sheet q_t_hands t_fault t_persons t_law t_bellSet t_readAt t_readLaw t_readMany t_queueMany t_servedNow t_doneAt t_readings t_whichMany t_whichOne t_whichTwo t_traceNow t_queueNow) → va_S A s.heap H locs → ∀ ls : Array Slot, lv_has ls 3 [(0, .ref q_t), (2, .int x2)] → W p l e (headSpec wsX9_takeOut rm_Mo_takeOut).room s m args below meth c H locs 0 0 (MQ below (CQv D (w_Mo_takeOut cI cJ cS q_t q_t_kindOf q_t_comes q_t_wants q_t_runs q_t_readKind q_t_readComes q_t_readWants q_t_queueNow q_t_servedAt q_t_comesWas q_t_readingOf q_t_readingAt q_t_sheetSize q_t_sheetLane q_t_sheet q_t_hands t_fault t_persons t_law t_bellSet t_readAt t_readLaw t_readMany o.1 t_servedNow t_doneAt t_readings t_whichMany t_whichOne t_whichTwo t_traceNow o.2) A) args s 0 0 A) (F0 m 2 ls []) := by
    intro x2 t_queueMany t_queueNow hM
    unfold Mo_takeOut_l2 at hM
    obtain ⟨n0, hM⟩ := fin_some hM
    exact (L2 n0) x2 t_queueMany t_queueNow hM
  unfold Mo_takeOut at hM
  refine lv_iload_n hx hb dX9_takeOut_0 rfl (lv_at hl 1 rfl) ?_
  refine lv_istore_n (lv' := [(2, .int p_place), (0, .ref q_t), (1, .int p_place)]) hx hb dX9_takeOut_1 rfl hl (Nat.le_of_ble_eq_true rfl) rfl (fun ls hl => ?_)
  exact J2 p_place t_queueMany t_queueNow hM _ _ hP hD hS _ (lv_sub hl [1, 0] rfl)
/-! ===== TurnQueueModel.standAt ===== -/
abbrev w_Mo_standAt (cI cJ cS : ClassId) (q_t : Nat) (q_t_kindOf : Nat) (q_t_comes : Nat) (q_t_wants : Nat) (q_t_runs : Nat) (q_t_readKind : Nat) (q_t_readComes : Nat) (q_t_readWants : Nat) (q_t_queueNow : Nat) (q_t_servedAt : Nat) (q_t_comesWas : Nat) (q_t_readingOf : Nat) (q_t_readingAt : Nat) (q_t_sheetSize : Nat) (q_t_sheetLane : Nat) (q_t_sheet : Nat) (q_t_hands : Nat) (t_fault : Int32) (t_persons : Int32) (t_law : Int32) (t_bellSet : Int64) (t_readAt : Int32) (t_readLaw : Int32) (t_readMany : Int32) (t_queueMany : Int32) (t_servedNow : Int32) (t_doneAt : Int32) (t_readings : Int32) (t_whichMany : Int32) (t_whichOne : Int32) (t_whichTwo : Int32) (t_traceNow : Int32) (t_queueNow : Nat → Int32) : va_W := [(q_t, .inr (8, [.int t_fault, .int t_persons, .int t_law, .ref q_t_kindOf, .ref q_t_comes, .ref q_t_wants, .ref q_t_runs, .long t_bellSet, .int t_readAt, .int t_readLaw, .int t_readMany, .ref q_t_readKind, .ref q_t_readComes, .ref q_t_readWants, .ref q_t_queueNow, .int t_queueMany, .int t_servedNow, .int t_doneAt, .ref q_t_servedAt, .ref q_t_comesWas, .int t_readings, .ref q_t_readingOf, .ref q_t_readingAt, .int t_whichMany, .int t_whichOne, .int t_whichTwo, .ref q_t_sheetSize, .ref q_t_sheetLane, .ref q_t_sheet, .ref q_t_hands, .int t_traceNow])), (q_t_queueNow, ar cI 7 t_queueNow)]
abbrev rm_Mo_standAt : Room := { frames := 0, cells := 0, slots := 0, locals := 0 }
noncomputable def Mo_standAt_j30 (p_place : Int32) (p_p : Int32) (t_queueMany : Int32) (t_queueNow : Nat → Int32) : Option (Int32 × (Nat → Int32)) :=
  if ck p_place 7 = true then
    lt (t_queueMany + 1) fun y3 =>
    some (y3, upd t_queueNow p_place.toNatClampNeg p_p)
  else none
noncomputable def Mo_standAt_b5 (p_place : Int32) (p_p : Int32) (x3 : Int32) (t_queueMany : Int32) (t_queueNow : Nat → Int32) : Option ((Int32 × Int32 × (Nat → Int32)) ⊕ (Int32 × (Nat → Int32))) :=
  if x3 ≤ p_place then
    ex (Mo_standAt_j30 p_place p_p t_queueMany t_queueNow)
  else
    if ck (x3 - 1) 7 = true then
      lt (t_queueNow (x3 - 1).toNatClampNeg) fun y5 =>
      if ck x3 7 = true then
        lt (x3 + (-1)) fun y7 =>
        some (.inl (y7, t_queueMany, upd t_queueNow x3.toNatClampNeg y5))
      else none
    else none
noncomputable def Mo_standAt_s5 (p_place : Int32) (p_p : Int32) : (Int32 × Int32 × (Nat → Int32)) → Option ((Int32 × Int32 × (Nat → Int32)) ⊕ (Int32 × (Nat → Int32))) := fun x => Mo_standAt_b5 p_place p_p x.1 x.2.1 x.2.2
noncomputable def Mo_standAt_l5 (p_place : Int32) (p_p : Int32) (x3 : Int32) (t_queueMany : Int32) (t_queueNow : Nat → Int32) : Option (Int32 × (Nat → Int32)) := fin (Mo_standAt_s5 p_place p_p) (x3, t_queueMany, t_queueNow)
noncomputable def Mo_standAt (p_place : Int32) (p_p : Int32) (t_queueMany : Int32) (t_queueNow : Nat → Int32) : Option (Int32 × (Nat → Int32)) :=
  Mo_standAt_l5 p_place p_p t_queueMany t_queueMany t_queueNow
theorem Mo_standAt_l5_eq (p_place : Int32) (p_p : Int32) (x3 : Int32) (t_queueMany : Int32) (t_queueNow : Nat → Int32) : Mo_standAt_l5 p_place p_p x3 t_queueMany t_queueNow = (Mo_standAt_b5 p_place p_p x3 t_queueMany t_queueNow).bind (sg (fin (Mo_standAt_s5 p_place p_p))) := by
  unfold Mo_standAt_l5
  exact fin_eq _ _
theorem Mo_standAt_l5_fd (p_place : Int32) (p_p : Int32) (x3 : Int32) (t_queueMany : Int32) (t_queueNow : Nat → Int32) : fin (Mo_standAt_s5 p_place p_p) (x3, t_queueMany, t_queueNow) = Mo_standAt_l5 p_place p_p x3 t_queueMany t_queueNow := rfl
set_option maxRecDepth 100000 in
set_option maxHeartbeats 4000000 in
theorem c_Mo_standAt (l : Launch) (D : va_G) (cI cJ cS : ClassId) (q_t q_t_kindOf q_t_comes q_t_wants q_t_runs q_t_readKind q_t_readComes q_t_readWants q_t_queueNow q_t_servedAt q_t_comesWas q_t_readingOf q_t_readingAt q_t_sheetSize q_t_sheetLane q_t_sheet q_t_hands : Nat) (t_fault : Int32) (t_persons : Int32) (t_law : Int32) (t_bellSet : Int64) (t_readAt : Int32) (t_readLaw : Int32) (t_readMany : Int32) (t_queueMany : Int32) (t_servedNow : Int32) (t_doneAt : Int32) (t_readings : Int32) (t_whichMany : Int32) (t_whichOne : Int32) (t_whichTwo : Int32) (t_traceNow : Int32) (t_queueNow : Nat → Int32) (p_place : Int32) (p_p : Int32) (o : Int32 × (Nat → Int32)) (hM : Mo_standAt p_place p_p t_queueMany t_queueNow = some o) : Cv l yX9_standAt wsX9_standAt rm_Mo_standAt D cI cJ cS [.ref q_t, .int p_place, .int p_p] (w_Mo_standAt cI cJ cS q_t q_t_kindOf q_t_comes q_t_wants q_t_runs q_t_readKind q_t_readComes q_t_readWants q_t_queueNow q_t_servedAt q_t_comesWas q_t_readingOf q_t_readingAt q_t_sheetSize q_t_sheetLane q_t_sheet q_t_hands t_fault t_persons t_law t_bellSet t_readAt t_readLaw t_readMany t_queueMany t_servedNow t_doneAt t_readings t_whichMany t_whichOne t_whichTwo t_traceNow t_queueNow) (w_Mo_standAt cI cJ cS q_t q_t_kindOf q_t_comes q_t_wants q_t_runs q_t_readKind q_t_readComes q_t_readWants q_t_queueNow q_t_servedAt q_t_comesWas q_t_readingOf q_t_readingAt q_t_sheetSize q_t_sheetLane q_t_sheet q_t_hands t_fault t_persons t_law t_bellSet t_readAt t_readLaw t_readMany o.1 t_servedNow t_doneAt t_readings t_whichMany t_whichOne t_whichTwo t_traceNow o.2) := by
  refine Cv.of (cc := cX9_standAt) (maxL := 4) (ret := none) (by decide) rfl (Nat.le_of_ble_eq_true rfl) ?_
  intro p e s m args below meth c A ls hE
  obtain ⟨hx, hb, hr, hml, hown, hts, hlocks, hK, hA, hP, hD, hS, hl⟩ := hE
  have hown : s.vm.findClass RX9 = some m.cls := hown
  have hl : lv_has ls 4 [(0, .ref q_t), (1, .int p_place), (2, .int p_p)] := hl
  have iX9 : ∀ w ∈ u_ws RX9 TX9 31, w ∈ wsX9_standAt := by decide +kernel
  have k0 := hts (.fieldLink RX9 140 "TurnQueueModel" "queueMany" "I") (by decide +kernel)
  have k1 := hts (.fieldLink RX9 31 "TurnQueueModel" "queueNow" "[I") (by decide +kernel)
  have J30 : ∀ (t_queueMany : Int32) (t_queueNow : Nat → Int32), Mo_standAt_j30 p_place p_p t_queueMany t_queueNow = some o → ∀ (H : Heap) (locs : List Loc), va_P D vwCl (w_Mo_standAt cI cJ cS q_t q_t_kindOf q_t_comes q_t_wants q_t_runs q_t_readKind q_t_readComes q_t_readWants q_t_queueNow q_t_servedAt q_t_comesWas q_t_readingOf q_t_readingAt q_t_sheetSize q_t_sheetLane q_t_sheet q_t_hands t_fault t_persons t_law t_bellSet t_readAt t_readLaw t_readMany t_queueMany t_servedNow t_doneAt t_readings t_whichMany t_whichOne t_whichTwo t_traceNow t_queueNow) H → va_D A (w_Mo_standAt cI cJ cS q_t q_t_kindOf q_t_comes q_t_wants q_t_runs q_t_readKind q_t_readComes q_t_readWants q_t_queueNow q_t_servedAt q_t_comesWas q_t_readingOf q_t_readingAt q_t_sheetSize q_t_sheetLane q_t_sheet q_t_hands t_fault t_persons t_law t_bellSet t_readAt t_readLaw t_readMany t_queueMany t_servedNow t_doneAt t_readings t_whichMany t_whichOne t_whichTwo t_traceNow t_queueNow) → va_S A s.heap H locs → ∀ ls : Array Slot, lv_has ls 4 [(0, .ref q_t), (1, .int p_place), (2, .int p_p)] → W p l e (headSpec wsX9_standAt rm_Mo_standAt).room s m args below meth c H locs 0 0 (MQ below (CQv D (w_Mo_standAt cI cJ cS q_t q_t_kindOf q_t_comes q_t_wants q_t_runs q_t_readKind q_t_readComes q_t_readWants q_t_queueNow q_t_servedAt q_t_comesWas q_t_readingOf q_t_readingAt q_t_sheetSize q_t_sheetLane q_t_sheet q_t_hands t_fault t_persons t_law t_bellSet t_readAt t_readLaw t_readMany o.1 t_servedNow t_doneAt t_readings t_whichMany t_whichOne t_whichTwo t_traceNow o.2) A) args s 0 0 A) (F0 m 30 ls []) := by
    intro t_queueMany t_queueNow hM H locs hP hD hS ls hl
    unfold Mo_standAt_j30 at hM
    refine lv_aload_n hx hb dX9_standAt_30 rfl (lv_at hl 0 rfl) ?_
    refine va_get (ci := 8) (v := .ref q_t_queueNow) (C := RX9) (T := TX9) (N := 31) hx hb hts iX9 hown hK.1 hP 0 rfl rfl 14 (Nat.le_of_ble_eq_true rfl) k1 (fun _ h9 => h9) rfl dX9_standAt_31 ?_
    refine lv_iload_n hx hb dX9_standAt_34 rfl (lv_at hl 1 rfl) ?_
    refine lv_iload_n hx hb dX9_standAt_35 rfl (lv_at hl 2 rfl) ?_
    obtain ⟨h2, hM⟩ := o_ck hM
    refine va_iast hx hb hK.1 hP hD hS 1 0 rfl rfl h2 dX9_standAt_36 (fun H locs hP hD hS => ?_)
    have hP : va_P D vwCl (w_Mo_standAt cI cJ cS q_t q_t_kindOf q_t_comes q_t_wants q_t_runs q_t_readKind q_t_readComes q_t_readWants q_t_queueNow q_t_servedAt q_t_comesWas q_t_readingOf q_t_readingAt q_t_sheetSize q_t_sheetLane q_t_sheet q_t_hands t_fault t_persons t_law t_bellSet t_readAt t_readLaw t_readMany t_queueMany t_servedNow t_doneAt t_readings t_whichMany t_whichOne t_whichTwo t_traceNow (upd t_queueNow p_place.toNatClampNeg p_p)) H := hP
    have hD : va_D A (w_Mo_standAt cI cJ cS q_t q_t_kindOf q_t_comes q_t_wants q_t_runs q_t_readKind q_t_readComes q_t_readWants q_t_queueNow q_t_servedAt q_t_comesWas q_t_readingOf q_t_readingAt q_t_sheetSize q_t_sheetLane q_t_sheet q_t_hands t_fault t_persons t_law t_bellSet t_readAt t_readLaw t_readMany t_queueMany t_servedNow t_doneAt t_readings t_whichMany t_whichOne t_whichTwo t_traceNow (upd t_queueNow p_place.toNatClampNeg p_p)) := hD
    refine lv_aload_n hx hb dX9_standAt_37 rfl (lv_at hl 0 rfl) ?_
    refine lv_dup hx hb dX9_standAt_38 rfl ?_
    refine va_get (ci := 8) (v := .int t_queueMany) (C := RX9) (T := TX9) (N := 31) hx hb hts iX9 hown hK.1 hP 0 rfl rfl 15 (Nat.le_of_ble_eq_true rfl) k0 (fun _ h9 => h9) rfl dX9_standAt_39 ?_
    refine lv_iconst (v := 1) hx hb dX9_standAt_42 (by decide) ?_
    refine lv_iadd hx hb dX9_standAt_43 ?_
    refine lv_topi (fun y3 ey3 => ?_)
    have hM := o_lt hM y3 ey3
    refine va_put (ci := 8) (v := .int y3) (ty := .int) (C := RX9) (T := TX9) (N := 31) hx hb hts iX9 tyX9 tyX9_ok nmX9 hown hK.1 hP hD hS 0 rfl rfl 15 (Nat.le_of_ble_eq_true rfl) k0 (fun _ h9 => h9) rfl (tyX9_ok 15 (Nat.le_of_ble_eq_true rfl)) rfl rfl (Nat.le_of_ble_eq_true rfl) dX9_standAt_44 (fun H locs hP hD hS => ?_)
    have hP : va_P D vwCl (w_Mo_standAt cI cJ cS q_t q_t_kindOf q_t_comes q_t_wants q_t_runs q_t_readKind q_t_readComes q_t_readWants q_t_queueNow q_t_servedAt q_t_comesWas q_t_readingOf q_t_readingAt q_t_sheetSize q_t_sheetLane q_t_sheet q_t_hands t_fault t_persons t_law t_bellSet t_readAt t_readLaw t_readMany y3 t_servedNow t_doneAt t_readings t_whichMany t_whichOne t_whichTwo t_traceNow (upd t_queueNow p_place.toNatClampNeg p_p)) H := hP
    have hD : va_D A (w_Mo_standAt cI cJ cS q_t q_t_kindOf q_t_comes q_t_wants q_t_runs q_t_readKind q_t_readComes q_t_readWants q_t_queueNow q_t_servedAt q_t_comesWas q_t_readingOf q_t_readingAt q_t_sheetSize q_t_sheetLane q_t_sheet q_t_hands t_fault t_persons t_law t_bellSet t_readAt t_readLaw t_readMany y3 t_servedNow t_doneAt t_readings t_whichMany t_whichOne t_whichTwo t_traceNow (upd t_queueNow p_place.toNatClampNeg p_p)) := hD
    have hM := (Option.some.inj hM)
    subst hM
    exact rt_v hx hb hr hlocks hP hD hS dX9_standAt_47
  have L5 : ∀ n : Nat, (∀ (x3 : Int32) (t_queueMany : Int32) (t_queueNow : Nat → Int32), itr (Mo_standAt_s5 p_place p_p) n (x3, t_queueMany, t_queueNow) = some o → ∀ (H : Heap) (locs : List Loc), va_P D vwCl (w_Mo_standAt cI cJ cS q_t q_t_kindOf q_t_comes q_t_wants q_t_runs q_t_readKind q_t_readComes q_t_readWants q_t_queueNow q_t_servedAt q_t_comesWas q_t_readingOf q_t_readingAt q_t_sheetSize q_t_sheetLane q_t_sheet q_t_hands t_fault t_persons t_law t_bellSet t_readAt t_readLaw t_readMany t_queueMany t_servedNow t_doneAt t_readings t_whichMany t_whichOne t_whichTwo t_traceNow t_queueNow) H → va_D A (w_Mo_standAt cI cJ cS q_t q_t_kindOf q_t_comes q_t_wants q_t_runs q_t_readKind q_t_readComes q_t_readWants q_t_queueNow q_t_servedAt q_t_comesWas q_t_readingOf q_t_readingAt q_t_sheetSize q_t_sheetLane q_t_sheet q_t_hands t_fault t_persons t_law t_bellSet t_readAt t_readLaw t_readMany t_queueMany t_servedNow t_doneAt t_readings t_whichMany t_whichOne t_whichTwo t_traceNow t_queueNow) → va_S A s.heap H locs → ∀ ls : Array Slot, lv_has ls 4 [(0, .ref q_t), (1, .int p_place), (2, .int p_p), (3, .int x3)] → W p l e (headSpec wsX9_standAt rm_Mo_standAt).room s m args below meth c H locs 0 0 (MQ below (CQv D (w_Mo_standAt cI cJ cS q_t q_t_kindOf q_t_comes q_t_wants q_t_runs q_t_readKind q_t_readComes q_t_readWants q_t_queueNow q_t_servedAt q_t_comesWas q_t_readingOf q_t_readingAt q_t_sheetSize q_t_sheetLane q_t_sheet q_t_hands t_fault t_persons t_law t_bellSet t_readAt t_readLaw t_readMany o.1 t_servedNow t_doneAt t_readings t_whichMany t_whichOne t_whichTwo t_traceNow o.2) A) args s 0 0 A) (F0 m 5 ls [])) := by
    intro n
    induction n with
    | zero => exact fun _ _ _ hM => (itr_0 hM).elim
    | succ n ih =>
      intro x3 t_queueMany t_queueNow hM H locs hP hD hS ls hl
      have hM : (Mo_standAt_b5 p_place p_p x3 t_queueMany t_queueNow).bind (sg (itr (Mo_standAt_s5 p_place p_p) n)) = some o := hM
      unfold Mo_standAt_b5 at hM
      refine lv_iload_n hx hb dX9_standAt_5 rfl (lv_at hl 3 rfl) ?_
      refine lv_iload_n hx hb dX9_standAt_6 rfl (lv_at hl 1 rfl) ?_
      refine lv_icmp_le (tgt := 30) hx hb dX9_standAt_7 (by decide) (fun c1 => ?_) (fun c1 => ?_)
      · have hM := (s_if hM).1 c1
        exact J30 t_queueMany t_queueNow (s_ex hM) _ _ hP hD hS _ (lv_sub hl [0, 1, 2] rfl)
      · have hM := (s_if hM).2 c1
        refine lv_aload_n hx hb dX9_standAt_10 rfl (lv_at hl 0 rfl) ?_
        refine va_get (ci := 8) (v := .ref q_t_queueNow) (C := RX9) (T := TX9) (N := 31) hx hb hts iX9 hown hK.1 hP 0 rfl rfl 14 (Nat.le_of_ble_eq_true rfl) k1 (fun _ h9 => h9) rfl dX9_standAt_11 ?_
        refine lv_iload_n hx hb dX9_standAt_14 rfl (lv_at hl 3 rfl) ?_
        refine lv_aload_n hx hb dX9_standAt_15 rfl (lv_at hl 0 rfl) ?_
        refine va_get (ci := 8) (v := .ref q_t_queueNow) (C := RX9) (T := TX9) (N := 31) hx hb hts iX9 hown hK.1 hP 0 rfl rfl 14 (Nat.le_of_ble_eq_true rfl) k1 (fun _ h9 => h9) rfl dX9_standAt_16 ?_
        refine lv_iload_n hx hb dX9_standAt_19 rfl (lv_at hl 3 rfl) ?_
        refine lv_iconst (v := 1) hx hb dX9_standAt_20 (by decide) ?_
        refine lv_isub hx hb dX9_standAt_21 ?_
        obtain ⟨h4, hM⟩ := s_ck hM
        refine va_iald hx hb hK.1 hP 1 0 rfl rfl h4 dX9_standAt_22 ?_
        refine lv_topi (fun y5 ey5 => ?_)
        have hM := s_lt hM y5 ey5
        obtain ⟨h6, hM⟩ := s_ck hM
        refine va_iast hx hb hK.1 hP hD hS 1 0 rfl rfl h6 dX9_standAt_23 (fun H locs hP hD hS => ?_)
        have hP : va_P D vwCl (w_Mo_standAt cI cJ cS q_t q_t_kindOf q_t_comes q_t_wants q_t_runs q_t_readKind q_t_readComes q_t_readWants q_t_queueNow q_t_servedAt q_t_comesWas q_t_readingOf q_t_readingAt q_t_sheetSize q_t_sheetLane q_t_sheet q_t_hands t_fault t_persons t_law t_bellSet t_readAt t_readLaw t_readMany t_queueMany t_servedNow t_doneAt t_readings t_whichMany t_whichOne t_whichTwo t_traceNow (upd t_queueNow x3.toNatClampNeg y5)) H := hP
        have hD : va_D A (w_Mo_standAt cI cJ cS q_t q_t_kindOf q_t_comes q_t_wants q_t_runs q_t_readKind q_t_readComes q_t_readWants q_t_queueNow q_t_servedAt q_t_comesWas q_t_readingOf q_t_readingAt q_t_sheetSize q_t_sheetLane q_t_sheet q_t_hands t_fault t_persons t_law t_bellSet t_readAt t_readLaw t_readMany t_queueMany t_servedNow t_doneAt t_readings t_whichMany t_whichOne t_whichTwo t_traceNow (upd t_queueNow x3.toNatClampNeg y5)) := hD
        obtain ⟨y7, ey7⟩ : ∃ y : Int32, y = x3 + (-1) := ⟨_, rfl⟩
        have hM := s_lt hM y7 ey7
        refine lv_iinc (v := y7) (lv' := [(3, .int y7), (0, .ref q_t), (1, .int p_place), (2, .int p_p)]) hx hb dX9_standAt_24 hl (k := 3) rfl (by rw [ey7]; rfl) (Nat.le_of_ble_eq_true rfl) rfl (fun ls hl => ?_)
        refine lv_goto (tgt := 5) hx hb dX9_standAt_27 (by decide) ?_
        exact ih y7 t_queueMany (upd t_queueNow x3.toNatClampNeg y5) (s_jp hM) _ _ hP hD hS _ (lv_sub hl [1, 2, 3, 0] rfl)
  have J5 : ∀ (x3 : Int32) (t_queueMany : Int32) (t_queueNow : Nat → Int32), Mo_standAt_l5 p_place p_p x3 t_queueMany t_queueNow = some o → ∀ (H : Heap) (locs : List Loc), va_P D vwCl (w_Mo_standAt cI cJ cS q_t q_t_kindOf q_t_comes q_t_wants q_t_runs q_t_readKind q_t_readComes q_t_readWants q_t_queueNow q_t_servedAt q_t_comesWas q_t_readingOf q_t_readingAt q_t_sheetSize q_t_sheetLane q_t_sheet q_t_hands t_fault t_persons t_law t_bellSet t_readAt t_readLaw t_readMany t_queueMany t_servedNow t_doneAt t_readings t_whichMany t_whichOne t_whichTwo t_traceNow t_queueNow) H → va_D A (w_Mo_standAt cI cJ cS q_t q_t_kindOf q_t_comes q_t_wants q_t_runs q_t_readKind q_t_readComes q_t_readWants q_t_queueNow q_t_servedAt q_t_comesWas q_t_readingOf q_t_readingAt q_t_sheetSize q_t_sheetLane q_t_sheet q_t_hands t_fault t_persons t_law t_bellSet t_readAt t_readLaw t_readMany t_queueMany t_servedNow t_doneAt t_readings t_whichMany t_whichOne t_whichTwo t_traceNow t_queueNow) → va_S A s.heap H locs → ∀ ls : Array Slot, lv_has ls 4 [(0, .ref q_t), (1, .int p_place), (2, .int p_p), (3, .int x3)] → W p l e (headSpec wsX9_standAt rm_Mo_standAt).room s m args below meth c H locs 0 0 (MQ below (CQv D (w_Mo_standAt cI cJ cS q_t q_t_kindOf q_t_comes q_t_wants q_t_runs q_t_readKind q_t_readComes q_t_readWants q_t_queueNow q_t_servedAt q_t_comesWas q_t_readingOf q_t_readingAt q_t_sheetSize q_t_sheetLane q_t_sheet q_t_hands t_fault t_persons t_law t_bellSet t_readAt t_readLaw t_readMany o.1 t_servedNow t_doneAt t_readings t_whichMany t_whichOne t_whichTwo t_traceNow o.2) A) args s 0 0 A) (F0 m 5 ls []) := by
    intro x3 t_queueMany t_queueNow hM
    unfold Mo_standAt_l5 at hM
    obtain ⟨n0, hM⟩ := fin_some hM
    exact (L5 n0) x3 t_queueMany t_queueNow hM
  unfold Mo_standAt at hM
  refine lv_aload_n hx hb dX9_standAt_0 rfl (lv_at hl 0 rfl) ?_
  refine va_get (ci := 8) (v := .int t_queueMany) (C := RX9) (T := TX9) (N := 31) hx hb hts iX9 hown hK.1 hP 0 rfl rfl 15 (Nat.le_of_ble_eq_true rfl) k0 (fun _ h9 => h9) rfl dX9_standAt_1 ?_
  refine lv_istore_n (lv' := [(3, .int t_queueMany), (0, .ref q_t), (1, .int p_place), (2, .int p_p)]) hx hb dX9_standAt_4 rfl hl (Nat.le_of_ble_eq_true rfl) rfl (fun ls hl => ?_)
  exact J5 t_queueMany t_queueMany t_queueNow hM _ _ hP hD hS _ (lv_sub hl [1, 2, 3, 0] rfl)
/-! ===== TurnQueueModel.placeFor ===== -/
abbrev w_Mo_placeFor (cI cJ cS : ClassId) (q_t : Nat) (q_t_kindOf : Nat) (q_t_comes : Nat) (q_t_wants : Nat) (q_t_runs : Nat) (q_t_readKind : Nat) (q_t_readComes : Nat) (q_t_readWants : Nat) (q_t_queueNow : Nat) (q_t_servedAt : Nat) (q_t_comesWas : Nat) (q_t_readingOf : Nat) (q_t_readingAt : Nat) (q_t_sheetSize : Nat) (q_t_sheetLane : Nat) (q_t_sheet : Nat) (q_t_hands : Nat) (t_fault : Int32) (t_persons : Int32) (t_law : Int32) (t_bellSet : Int64) (t_readAt : Int32) (t_readLaw : Int32) (t_readMany : Int32) (t_queueMany : Int32) (t_servedNow : Int32) (t_doneAt : Int32) (t_readings : Int32) (t_whichMany : Int32) (t_whichOne : Int32) (t_whichTwo : Int32) (t_traceNow : Int32) (t_kindOf : Nat → Int32) (t_queueNow : Nat → Int32) : va_W := [(q_t, .inr (8, [.int t_fault, .int t_persons, .int t_law, .ref q_t_kindOf, .ref q_t_comes, .ref q_t_wants, .ref q_t_runs, .long t_bellSet, .int t_readAt, .int t_readLaw, .int t_readMany, .ref q_t_readKind, .ref q_t_readComes, .ref q_t_readWants, .ref q_t_queueNow, .int t_queueMany, .int t_servedNow, .int t_doneAt, .ref q_t_servedAt, .ref q_t_comesWas, .int t_readings, .ref q_t_readingOf, .ref q_t_readingAt, .int t_whichMany, .int t_whichOne, .int t_whichTwo, .ref q_t_sheetSize, .ref q_t_sheetLane, .ref q_t_sheet, .ref q_t_hands, .int t_traceNow])), (q_t_kindOf, ar cI 7 t_kindOf), (q_t_queueNow, ar cI 7 t_queueNow)]
abbrev rm_Mo_placeFor : Room := { frames := 0, cells := 0, slots := 0, locals := 0 }
noncomputable def Mo_placeFor_b40 (p_p : Int32) (t_queueMany : Int32) (t_kindOf : Nat → Int32) (t_queueNow : Nat → Int32) (x2 : Int32) : Option ((Int32) ⊕ (Int32)) :=
  if t_queueMany ≤ x2 then
    some (.inr t_queueMany)
  else
    if ck x2 7 = true then
      if ck (t_queueNow x2.toNatClampNeg) 7 = true then
        if (t_kindOf (t_queueNow x2.toNatClampNeg).toNatClampNeg) ≤ 0 then
          lt (x2 + 1) fun y9 =>
          some (.inl (y9))
        else
          some (.inr (x2 + 1))
      else none
    else none
noncomputable def Mo_placeFor_s40 (p_p : Int32) (t_queueMany : Int32) (t_kindOf : Nat → Int32) (t_queueNow : Nat → Int32) : (Int32) → Option ((Int32) ⊕ (Int32)) := fun x => Mo_placeFor_b40 p_p t_queueMany t_kindOf t_queueNow x
noncomputable def Mo_placeFor_l40 (p_p : Int32) (t_queueMany : Int32) (t_kindOf : Nat → Int32) (t_queueNow : Nat → Int32) (x2 : Int32) : Option (Int32) := fin (Mo_placeFor_s40 p_p t_queueMany t_kindOf t_queueNow) (x2)
noncomputable def Mo_placeFor (p_p : Int32) (t_queueMany : Int32) (t_kindOf : Nat → Int32) (t_queueNow : Nat → Int32) : Option (Int32) :=
  if ck p_p 7 = true then
    if (t_kindOf p_p.toNatClampNeg) = 1 then
      if t_queueMany = 0 then
        some 0
      else
        some (t_queueMany - 1)
    else
      if ck p_p 7 = true then
        if (t_kindOf p_p.toNatClampNeg) = 2 then
          Mo_placeFor_l40 p_p t_queueMany t_kindOf t_queueNow 0
        else
          some t_queueMany
      else none
  else none
theorem Mo_placeFor_l40_eq (p_p : Int32) (t_queueMany : Int32) (t_kindOf : Nat → Int32) (t_queueNow : Nat → Int32) (x2 : Int32) : Mo_placeFor_l40 p_p t_queueMany t_kindOf t_queueNow x2 = (Mo_placeFor_b40 p_p t_queueMany t_kindOf t_queueNow x2).bind (sg (fin (Mo_placeFor_s40 p_p t_queueMany t_kindOf t_queueNow))) := by
  unfold Mo_placeFor_l40
  exact fin_eq _ _
theorem Mo_placeFor_l40_fd (p_p : Int32) (t_queueMany : Int32) (t_kindOf : Nat → Int32) (t_queueNow : Nat → Int32) (x2 : Int32) : fin (Mo_placeFor_s40 p_p t_queueMany t_kindOf t_queueNow) (x2) = Mo_placeFor_l40 p_p t_queueMany t_kindOf t_queueNow x2 := rfl
set_option maxRecDepth 100000 in
set_option maxHeartbeats 4000000 in
theorem c_Mo_placeFor (l : Launch) (D : va_G) (cI cJ cS : ClassId) (q_t q_t_kindOf q_t_comes q_t_wants q_t_runs q_t_readKind q_t_readComes q_t_readWants q_t_queueNow q_t_servedAt q_t_comesWas q_t_readingOf q_t_readingAt q_t_sheetSize q_t_sheetLane q_t_sheet q_t_hands : Nat) (t_fault : Int32) (t_persons : Int32) (t_law : Int32) (t_bellSet : Int64) (t_readAt : Int32) (t_readLaw : Int32) (t_readMany : Int32) (t_queueMany : Int32) (t_servedNow : Int32) (t_doneAt : Int32) (t_readings : Int32) (t_whichMany : Int32) (t_whichOne : Int32) (t_whichTwo : Int32) (t_traceNow : Int32) (t_kindOf : Nat → Int32) (t_queueNow : Nat → Int32) (p_p : Int32) (o : Int32) (hM : Mo_placeFor p_p t_queueMany t_kindOf t_queueNow = some o) : Ci l yX9_placeFor wsX9_placeFor rm_Mo_placeFor D cI cJ cS [.ref q_t, .int p_p] (w_Mo_placeFor cI cJ cS q_t q_t_kindOf q_t_comes q_t_wants q_t_runs q_t_readKind q_t_readComes q_t_readWants q_t_queueNow q_t_servedAt q_t_comesWas q_t_readingOf q_t_readingAt q_t_sheetSize q_t_sheetLane q_t_sheet q_t_hands t_fault t_persons t_law t_bellSet t_readAt t_readLaw t_readMany t_queueMany t_servedNow t_doneAt t_readings t_whichMany t_whichOne t_whichTwo t_traceNow t_kindOf t_queueNow) (w_Mo_placeFor cI cJ cS q_t q_t_kindOf q_t_comes q_t_wants q_t_runs q_t_readKind q_t_readComes q_t_readWants q_t_queueNow q_t_servedAt q_t_comesWas q_t_readingOf q_t_readingAt q_t_sheetSize q_t_sheetLane q_t_sheet q_t_hands t_fault t_persons t_law t_bellSet t_readAt t_readLaw t_readMany t_queueMany t_servedNow t_doneAt t_readings t_whichMany t_whichOne t_whichTwo t_traceNow t_kindOf t_queueNow) o := by
  refine Ci.of (cc := cX9_placeFor) (maxL := 3) (ret := (some .int)) (by decide) rfl (Nat.le_of_ble_eq_true rfl) ?_
  intro p e s m args below meth c A ls hE
  obtain ⟨hx, hb, hr, hml, hown, hts, hlocks, hK, hA, hP, hD, hS, hl⟩ := hE
  have hown : s.vm.findClass RX9 = some m.cls := hown
  have hl : lv_has ls 3 [(0, .ref q_t), (1, .int p_p)] := hl
  have iX9 : ∀ w ∈ u_ws RX9 TX9 31, w ∈ wsX9_placeFor := by decide +kernel
  have k0 := hts (.fieldLink RX9 7 "TurnQueueModel" "kindOf" "[I") (by decide +kernel)
  have k1 := hts (.fieldLink RX9 140 "TurnQueueModel" "queueMany" "I") (by decide +kernel)
  have k2 := hts (.fieldLink RX9 31 "TurnQueueModel" "queueNow" "[I") (by decide +kernel)
  have L40 : ∀ n : Nat, (∀ (x2 : Int32), itr (Mo_placeFor_s40 p_p t_queueMany t_kindOf t_queueNow) n (x2) = some o → ∀ (H : Heap) (locs : List Loc), va_P D vwCl (w_Mo_placeFor cI cJ cS q_t q_t_kindOf q_t_comes q_t_wants q_t_runs q_t_readKind q_t_readComes q_t_readWants q_t_queueNow q_t_servedAt q_t_comesWas q_t_readingOf q_t_readingAt q_t_sheetSize q_t_sheetLane q_t_sheet q_t_hands t_fault t_persons t_law t_bellSet t_readAt t_readLaw t_readMany t_queueMany t_servedNow t_doneAt t_readings t_whichMany t_whichOne t_whichTwo t_traceNow t_kindOf t_queueNow) H → va_D A (w_Mo_placeFor cI cJ cS q_t q_t_kindOf q_t_comes q_t_wants q_t_runs q_t_readKind q_t_readComes q_t_readWants q_t_queueNow q_t_servedAt q_t_comesWas q_t_readingOf q_t_readingAt q_t_sheetSize q_t_sheetLane q_t_sheet q_t_hands t_fault t_persons t_law t_bellSet t_readAt t_readLaw t_readMany t_queueMany t_servedNow t_doneAt t_readings t_whichMany t_whichOne t_whichTwo t_traceNow t_kindOf t_queueNow) → va_S A s.heap H locs → ∀ ls : Array Slot, lv_has ls 3 [(0, .ref q_t), (2, .int x2)] → W p l e (headSpec wsX9_placeFor rm_Mo_placeFor).room s m args below meth c H locs 0 0 (MQ below (CQi D (w_Mo_placeFor cI cJ cS q_t q_t_kindOf q_t_comes q_t_wants q_t_runs q_t_readKind q_t_readComes q_t_readWants q_t_queueNow q_t_servedAt q_t_comesWas q_t_readingOf q_t_readingAt q_t_sheetSize q_t_sheetLane q_t_sheet q_t_hands t_fault t_persons t_law t_bellSet t_readAt t_readLaw t_readMany t_queueMany t_servedNow t_doneAt t_readings t_whichMany t_whichOne t_whichTwo t_traceNow t_kindOf t_queueNow) A o) args s 0 0 A) (F0 m 40 ls [])) := by
    intro n
    induction n with
    | zero => exact fun _ hM => (itr_0 hM).elim
    | succ n ih =>
      intro x2 hM H locs hP hD hS ls hl
      have hM : (Mo_placeFor_b40 p_p t_queueMany t_kindOf t_queueNow x2).bind (sg (itr (Mo_placeFor_s40 p_p t_queueMany t_kindOf t_queueNow) n)) = some o := hM
      unfold Mo_placeFor_b40 at hM
      refine lv_iload_n hx hb dX9_placeFor_40 rfl (lv_at hl 1 rfl) ?_
      refine lv_aload_n hx hb dX9_placeFor_41 rfl (lv_at hl 0 rfl) ?_
      refine va_get (ci := 8) (v := .int t_queueMany) (C := RX9) (T := TX9) (N := 31) hx hb hts iX9 hown hK.1 hP 0 rfl rfl 15 (Nat.le_of_ble_eq_true rfl) k1 (fun _ h9 => h9) rfl dX9_placeFor_42 ?_
      refine lv_icmp_ge (tgt := 72) hx hb dX9_placeFor_45 (by decide) (fun c5 => ?_) (fun c5 => ?_)
      · have hM := (s_if hM).1 c5
        refine lv_aload_n hx hb dX9_placeFor_72 rfl (lv_at hl 0 rfl) ?_
        refine va_get (ci := 8) (v := .int t_queueMany) (C := RX9) (T := TX9) (N := 31) hx hb hts iX9 hown hK.1 hP 0 rfl rfl 15 (Nat.le_of_ble_eq_true rfl) k1 (fun _ h9 => h9) rfl dX9_placeFor_73 ?_
        have hM := (Option.some.inj (s_rt hM))
        subst hM
        exact rt_i hx hb hr hlocks hP hD hS dX9_placeFor_76
      · have hM := (s_if hM).2 c5
        refine lv_aload_n hx hb dX9_placeFor_48 rfl (lv_at hl 0 rfl) ?_
        refine va_get (ci := 8) (v := .ref q_t_kindOf) (C := RX9) (T := TX9) (N := 31) hx hb hts iX9 hown hK.1 hP 0 rfl rfl 3 (Nat.le_of_ble_eq_true rfl) k0 (fun _ h9 => h9) rfl dX9_placeFor_49 ?_
        refine lv_aload_n hx hb dX9_placeFor_52 rfl (lv_at hl 0 rfl) ?_
        refine va_get (ci := 8) (v := .ref q_t_queueNow) (C := RX9) (T := TX9) (N := 31) hx hb hts iX9 hown hK.1 hP 0 rfl rfl 14 (Nat.le_of_ble_eq_true rfl) k2 (fun _ h9 => h9) rfl dX9_placeFor_53 ?_
        refine lv_iload_n hx hb dX9_placeFor_56 rfl (lv_at hl 1 rfl) ?_
        obtain ⟨h6, hM⟩ := s_ck hM
        refine va_iald hx hb hK.1 hP 2 0 rfl rfl h6 dX9_placeFor_57 ?_
        obtain ⟨h7, hM⟩ := s_ck hM
        refine va_iald hx hb hK.1 hP 1 0 rfl rfl h7 dX9_placeFor_58 ?_
        refine lv_if_le (tgt := 66) hx hb dX9_placeFor_59 (by decide) (fun c8 => ?_) (fun c8 => ?_)
        · have hM := (s_if hM).1 c8
          obtain ⟨y9, ey9⟩ : ∃ y : Int32, y = x2 + 1 := ⟨_, rfl⟩
          have hM := s_lt hM y9 ey9
          refine lv_iinc (v := y9) (lv' := [(2, .int y9), (0, .ref q_t)]) hx hb dX9_placeFor_66 hl (k := 1) rfl (by rw [ey9]; rfl) (Nat.le_of_ble_eq_true rfl) rfl (fun ls hl => ?_)
          refine lv_goto (tgt := 40) hx hb dX9_placeFor_69 (by decide) ?_
          exact ih y9 (s_jp hM) _ _ hP hD hS _ (lv_sub hl [1, 0] rfl)
        · have hM := (s_if hM).2 c8
          refine lv_iload_n hx hb dX9_placeFor_62 rfl (lv_at hl 1 rfl) ?_
          refine lv_iconst (v := 1) hx hb dX9_placeFor_63 (by decide) ?_
          refine lv_iadd hx hb dX9_placeFor_64 ?_
          have hM := (Option.some.inj (s_rt hM))
          subst hM
          exact rt_i hx hb hr hlocks hP hD hS dX9_placeFor_65
  have J40 : ∀ (x2 : Int32), Mo_placeFor_l40 p_p t_queueMany t_kindOf t_queueNow x2 = some o → ∀ (H : Heap) (locs : List Loc), va_P D vwCl (w_Mo_placeFor cI cJ cS q_t q_t_kindOf q_t_comes q_t_wants q_t_runs q_t_readKind q_t_readComes q_t_readWants q_t_queueNow q_t_servedAt q_t_comesWas q_t_readingOf q_t_readingAt q_t_sheetSize q_t_sheetLane q_t_sheet q_t_hands t_fault t_persons t_law t_bellSet t_readAt t_readLaw t_readMany t_queueMany t_servedNow t_doneAt t_readings t_whichMany t_whichOne t_whichTwo t_traceNow t_kindOf t_queueNow) H → va_D A (w_Mo_placeFor cI cJ cS q_t q_t_kindOf q_t_comes q_t_wants q_t_runs q_t_readKind q_t_readComes q_t_readWants q_t_queueNow q_t_servedAt q_t_comesWas q_t_readingOf q_t_readingAt q_t_sheetSize q_t_sheetLane q_t_sheet q_t_hands t_fault t_persons t_law t_bellSet t_readAt t_readLaw t_readMany t_queueMany t_servedNow t_doneAt t_readings t_whichMany t_whichOne t_whichTwo t_traceNow t_kindOf t_queueNow) → va_S A s.heap H locs → ∀ ls : Array Slot, lv_has ls 3 [(0, .ref q_t), (2, .int x2)] → W p l e (headSpec wsX9_placeFor rm_Mo_placeFor).room s m args below meth c H locs 0 0 (MQ below (CQi D (w_Mo_placeFor cI cJ cS q_t q_t_kindOf q_t_comes q_t_wants q_t_runs q_t_readKind q_t_readComes q_t_readWants q_t_queueNow q_t_servedAt q_t_comesWas q_t_readingOf q_t_readingAt q_t_sheetSize q_t_sheetLane q_t_sheet q_t_hands t_fault t_persons t_law t_bellSet t_readAt t_readLaw t_readMany t_queueMany t_servedNow t_doneAt t_readings t_whichMany t_whichOne t_whichTwo t_traceNow t_kindOf t_queueNow) A o) args s 0 0 A) (F0 m 40 ls []) := by
    intro x2 hM
    unfold Mo_placeFor_l40 at hM
    obtain ⟨n0, hM⟩ := fin_some hM
    exact (L40 n0) x2 hM
  unfold Mo_placeFor at hM
  refine lv_aload_n hx hb dX9_placeFor_0 rfl (lv_at hl 0 rfl) ?_
  refine va_get (ci := 8) (v := .ref q_t_kindOf) (C := RX9) (T := TX9) (N := 31) hx hb hts iX9 hown hK.1 hP 0 rfl rfl 3 (Nat.le_of_ble_eq_true rfl) k0 (fun _ h9 => h9) rfl dX9_placeFor_1 ?_
  refine lv_iload_n hx hb dX9_placeFor_4 rfl (lv_at hl 1 rfl) ?_
  obtain ⟨h1, hM⟩ := o_ck hM
  refine va_iald hx hb hK.1 hP 1 0 rfl rfl h1 dX9_placeFor_5 ?_
  refine lv_iconst (v := 1) hx hb dX9_placeFor_6 (by decide) ?_
  refine lv_icmp_ne (tgt := 28) hx hb dX9_placeFor_7 (by decide) (fun c2 => ?_) (fun c2 => ?_)
  · have hM := (o_if hM).2 c2
    refine lv_aload_n hx hb dX9_placeFor_28 rfl (lv_at hl 0 rfl) ?_
    refine va_get (ci := 8) (v := .ref q_t_kindOf) (C := RX9) (T := TX9) (N := 31) hx hb hts iX9 hown hK.1 hP 0 rfl rfl 3 (Nat.le_of_ble_eq_true rfl) k0 (fun _ h9 => h9) rfl dX9_placeFor_29 ?_
    refine lv_iload_n hx hb dX9_placeFor_32 rfl (lv_at hl 1 rfl) ?_
    obtain ⟨h3, hM⟩ := o_ck hM
    refine va_iald hx hb hK.1 hP 1 0 rfl rfl h3 dX9_placeFor_33 ?_
    refine lv_iconst (v := 2) hx hb dX9_placeFor_34 (by decide) ?_
    refine lv_icmp_ne (tgt := 72) hx hb dX9_placeFor_35 (by decide) (fun c4 => ?_) (fun c4 => ?_)
    · have hM := (o_if hM).2 c4
      refine lv_aload_n hx hb dX9_placeFor_72 rfl (lv_at hl 0 rfl) ?_
      refine va_get (ci := 8) (v := .int t_queueMany) (C := RX9) (T := TX9) (N := 31) hx hb hts iX9 hown hK.1 hP 0 rfl rfl 15 (Nat.le_of_ble_eq_true rfl) k1 (fun _ h9 => h9) rfl dX9_placeFor_73 ?_
      have hM := (Option.some.inj hM)
      subst hM
      exact rt_i hx hb hr hlocks hP hD hS dX9_placeFor_76
    · have hM := (o_if hM).1 c4
      refine lv_iconst (v := 0) hx hb dX9_placeFor_38 (by decide) ?_
      refine lv_istore_n (lv' := [(2, .int 0), (0, .ref q_t), (1, .int p_p)]) hx hb dX9_placeFor_39 rfl hl (Nat.le_of_ble_eq_true rfl) rfl (fun ls hl => ?_)
      exact J40 0 hM _ _ hP hD hS _ (lv_sub hl [1, 0] rfl)
  · have hM := (o_if hM).1 c2
    refine lv_aload_n hx hb dX9_placeFor_10 rfl (lv_at hl 0 rfl) ?_
    refine va_get (ci := 8) (v := .int t_queueMany) (C := RX9) (T := TX9) (N := 31) hx hb hts iX9 hown hK.1 hP 0 rfl rfl 15 (Nat.le_of_ble_eq_true rfl) k1 (fun _ h9 => h9) rfl dX9_placeFor_11 ?_
    refine lv_if_ne (tgt := 21) hx hb dX9_placeFor_14 (by decide) (fun c10 => ?_) (fun c10 => ?_)
    · have hM := (o_if hM).2 c10
      refine lv_aload_n hx hb dX9_placeFor_21 rfl (lv_at hl 0 rfl) ?_
      refine va_get (ci := 8) (v := .int t_queueMany) (C := RX9) (T := TX9) (N := 31) hx hb hts iX9 hown hK.1 hP 0 rfl rfl 15 (Nat.le_of_ble_eq_true rfl) k1 (fun _ h9 => h9) rfl dX9_placeFor_22 ?_
      refine lv_iconst (v := 1) hx hb dX9_placeFor_25 (by decide) ?_
      refine lv_isub hx hb dX9_placeFor_26 ?_
      have hM := (Option.some.inj hM)
      subst hM
      exact rt_i hx hb hr hlocks hP hD hS dX9_placeFor_27
    · have hM := (o_if hM).1 c10
      refine lv_iconst (v := 0) hx hb dX9_placeFor_17 (by decide) ?_
      refine lv_goto (tgt := 27) hx hb dX9_placeFor_18 (by decide) ?_
      have hM := (Option.some.inj hM)
      subst hM
      exact rt_i hx hb hr hlocks hP hD hS dX9_placeFor_27
/-! ===== TurnQueueModel.turnFirst ===== -/
abbrev w_Mo_turnFirst (cI cJ cS : ClassId) (q_t : Nat) (q_t_kindOf : Nat) (q_t_comes : Nat) (q_t_wants : Nat) (q_t_runs : Nat) (q_t_readKind : Nat) (q_t_readComes : Nat) (q_t_readWants : Nat) (q_t_queueNow : Nat) (q_t_servedAt : Nat) (q_t_comesWas : Nat) (q_t_readingOf : Nat) (q_t_readingAt : Nat) (q_t_sheetSize : Nat) (q_t_sheetLane : Nat) (q_t_sheet : Nat) (q_t_hands : Nat) (t_fault : Int32) (t_persons : Int32) (t_law : Int32) (t_bellSet : Int64) (t_readAt : Int32) (t_readLaw : Int32) (t_readMany : Int32) (t_queueMany : Int32) (t_servedNow : Int32) (t_doneAt : Int32) (t_readings : Int32) (t_whichMany : Int32) (t_whichOne : Int32) (t_whichTwo : Int32) (t_traceNow : Int32) (t_queueNow : Nat → Int32) : va_W := [(q_t, .inr (8, [.int t_fault, .int t_persons, .int t_law, .ref q_t_kindOf, .ref q_t_comes, .ref q_t_wants, .ref q_t_runs, .long t_bellSet, .int t_readAt, .int t_readLaw, .int t_readMany, .ref q_t_readKind, .ref q_t_readComes, .ref q_t_readWants, .ref q_t_queueNow, .int t_queueMany, .int t_servedNow, .int t_doneAt, .ref q_t_servedAt, .ref q_t_comesWas, .int t_readings, .ref q_t_readingOf, .ref q_t_readingAt, .int t_whichMany, .int t_whichOne, .int t_whichTwo, .ref q_t_sheetSize, .ref q_t_sheetLane, .ref q_t_sheet, .ref q_t_hands, .int t_traceNow])), (q_t_queueNow, ar cI 7 t_queueNow)]
abbrev rm_Mo_turnFirst : Room := { frames := 0, cells := 0, slots := 0, locals := 0 }
noncomputable def Mo_turnFirst_b2 (p_many : Int32) (x2 : Int32) (t_queueNow : Nat → Int32) : Option ((Int32 × (Nat → Int32)) ⊕ ((Nat → Int32))) :=
  if (p_many / 2) ≤ x2 then
    some (.inr t_queueNow)
  else
    if ck x2 7 = true then
      lt (t_queueNow x2.toNatClampNeg) fun y3 =>
      if ck ((p_many - 1) - x2) 7 = true then
        lt (t_queueNow ((p_many - 1) - x2).toNatClampNeg) fun y5 =>
        if ck x2 7 = true then
          if ck ((p_many - 1) - x2) 7 = true then
            lt (x2 + 1) fun y8 =>
            some (.inl (y8, upd (upd t_queueNow x2.toNatClampNeg y5) ((p_many - 1) - x2).toNatClampNeg y3))
          else none
        else none
      else none
    else none
noncomputable def Mo_turnFirst_s2 (p_many : Int32) : (Int32 × (Nat → Int32)) → Option ((Int32 × (Nat → Int32)) ⊕ ((Nat → Int32))) := fun x => Mo_turnFirst_b2 p_many x.1 x.2
noncomputable def Mo_turnFirst_l2 (p_many : Int32) (x2 : Int32) (t_queueNow : Nat → Int32) : Option ((Nat → Int32)) := fin (Mo_turnFirst_s2 p_many) (x2, t_queueNow)
noncomputable def Mo_turnFirst (p_many : Int32) (t_queueNow : Nat → Int32) : Option ((Nat → Int32)) :=
  Mo_turnFirst_l2 p_many 0 t_queueNow
theorem Mo_turnFirst_l2_eq (p_many : Int32) (x2 : Int32) (t_queueNow : Nat → Int32) : Mo_turnFirst_l2 p_many x2 t_queueNow = (Mo_turnFirst_b2 p_many x2 t_queueNow).bind (sg (fin (Mo_turnFirst_s2 p_many))) := by
  unfold Mo_turnFirst_l2
  exact fin_eq _ _
theorem Mo_turnFirst_l2_fd (p_many : Int32) (x2 : Int32) (t_queueNow : Nat → Int32) : fin (Mo_turnFirst_s2 p_many) (x2, t_queueNow) = Mo_turnFirst_l2 p_many x2 t_queueNow := rfl
set_option maxRecDepth 100000 in
set_option maxHeartbeats 4000000 in
theorem c_Mo_turnFirst (l : Launch) (D : va_G) (cI cJ cS : ClassId) (q_t q_t_kindOf q_t_comes q_t_wants q_t_runs q_t_readKind q_t_readComes q_t_readWants q_t_queueNow q_t_servedAt q_t_comesWas q_t_readingOf q_t_readingAt q_t_sheetSize q_t_sheetLane q_t_sheet q_t_hands : Nat) (t_fault : Int32) (t_persons : Int32) (t_law : Int32) (t_bellSet : Int64) (t_readAt : Int32) (t_readLaw : Int32) (t_readMany : Int32) (t_queueMany : Int32) (t_servedNow : Int32) (t_doneAt : Int32) (t_readings : Int32) (t_whichMany : Int32) (t_whichOne : Int32) (t_whichTwo : Int32) (t_traceNow : Int32) (t_queueNow : Nat → Int32) (p_many : Int32) (o : (Nat → Int32)) (hM : Mo_turnFirst p_many t_queueNow = some o) : Cv l yX9_turnFirst wsX9_turnFirst rm_Mo_turnFirst D cI cJ cS [.ref q_t, .int p_many] (w_Mo_turnFirst cI cJ cS q_t q_t_kindOf q_t_comes q_t_wants q_t_runs q_t_readKind q_t_readComes q_t_readWants q_t_queueNow q_t_servedAt q_t_comesWas q_t_readingOf q_t_readingAt q_t_sheetSize q_t_sheetLane q_t_sheet q_t_hands t_fault t_persons t_law t_bellSet t_readAt t_readLaw t_readMany t_queueMany t_servedNow t_doneAt t_readings t_whichMany t_whichOne t_whichTwo t_traceNow t_queueNow) (w_Mo_turnFirst cI cJ cS q_t q_t_kindOf q_t_comes q_t_wants q_t_runs q_t_readKind q_t_readComes q_t_readWants q_t_queueNow q_t_servedAt q_t_comesWas q_t_readingOf q_t_readingAt q_t_sheetSize q_t_sheetLane q_t_sheet q_t_hands t_fault t_persons t_law t_bellSet t_readAt t_readLaw t_readMany t_queueMany t_servedNow t_doneAt t_readings t_whichMany t_whichOne t_whichTwo t_traceNow o) := by
  refine Cv.of (cc := cX9_turnFirst) (maxL := 4) (ret := none) (by decide) rfl (Nat.le_of_ble_eq_true rfl) ?_
  intro p e s m args below meth c A ls hE
  obtain ⟨hx, hb, hr, hml, hown, hts, hlocks, hK, hA, hP, hD, hS, hl⟩ := hE
  have hown : s.vm.findClass RX9 = some m.cls := hown
  have hl : lv_has ls 4 [(0, .ref q_t), (1, .int p_many)] := hl
  have iX9 : ∀ w ∈ u_ws RX9 TX9 31, w ∈ wsX9_turnFirst := by decide +kernel
  have k0 := hts (.fieldLink RX9 31 "TurnQueueModel" "queueNow" "[I") (by decide +kernel)
  have L2 : ∀ n : Nat, (∀ (x2 : Int32) (t_queueNow : Nat → Int32), itr (Mo_turnFirst_s2 p_many) n (x2, t_queueNow) = some o → ∀ (H : Heap) (locs : List Loc), va_P D vwCl (w_Mo_turnFirst cI cJ cS q_t q_t_kindOf q_t_comes q_t_wants q_t_runs q_t_readKind q_t_readComes q_t_readWants q_t_queueNow q_t_servedAt q_t_comesWas q_t_readingOf q_t_readingAt q_t_sheetSize q_t_sheetLane q_t_sheet q_t_hands t_fault t_persons t_law t_bellSet t_readAt t_readLaw t_readMany t_queueMany t_servedNow t_doneAt t_readings t_whichMany t_whichOne t_whichTwo t_traceNow t_queueNow) H → va_D A (w_Mo_turnFirst cI cJ cS q_t q_t_kindOf q_t_comes q_t_wants q_t_runs q_t_readKind q_t_readComes q_t_readWants q_t_queueNow q_t_servedAt q_t_comesWas q_t_readingOf q_t_readingAt q_t_sheetSize q_t_sheetLane q_t_sheet q_t_hands t_fault t_persons t_law t_bellSet t_readAt t_readLaw t_readMany t_queueMany t_servedNow t_doneAt t_readings t_whichMany t_whichOne t_whichTwo t_traceNow t_queueNow) → va_S A s.heap H locs → ∀ ls : Array Slot, lv_has ls 4 [(0, .ref q_t), (1, .int p_many), (2, .int x2)] → W p l e (headSpec wsX9_turnFirst rm_Mo_turnFirst).room s m args below meth c H locs 0 0 (MQ below (CQv D (w_Mo_turnFirst cI cJ cS q_t q_t_kindOf q_t_comes q_t_wants q_t_runs q_t_readKind q_t_readComes q_t_readWants q_t_queueNow q_t_servedAt q_t_comesWas q_t_readingOf q_t_readingAt q_t_sheetSize q_t_sheetLane q_t_sheet q_t_hands t_fault t_persons t_law t_bellSet t_readAt t_readLaw t_readMany t_queueMany t_servedNow t_doneAt t_readings t_whichMany t_whichOne t_whichTwo t_traceNow o) A) args s 0 0 A) (F0 m 2 ls [])) := by
    intro n
    induction n with
    | zero => exact fun _ _ hM => (itr_0 hM).elim
    | succ n ih =>
      intro x2 t_queueNow hM H locs hP hD hS ls hl
      have hM : (Mo_turnFirst_b2 p_many x2 t_queueNow).bind (sg (itr (Mo_turnFirst_s2 p_many) n)) = some o := hM
      unfold Mo_turnFirst_b2 at hM
      refine lv_iload_n hx hb dX9_turnFirst_2 rfl (lv_at hl 2 rfl) ?_
      refine lv_iload_n hx hb dX9_turnFirst_3 rfl (lv_at hl 1 rfl) ?_
      refine lv_iconst (v := 2) hx hb dX9_turnFirst_4 (by decide) ?_
      refine lv_idiv hx hb dX9_turnFirst_5 (by decide) ?_
      refine lv_icmp_ge (tgt := 49) hx hb dX9_turnFirst_6 (by decide) (fun c1 => ?_) (fun c1 => ?_)
      · have hM := (s_if hM).1 c1
        have hM := (Option.some.inj (s_rt hM))
        subst hM
        exact rt_v hx hb hr hlocks hP hD hS dX9_turnFirst_49
      · have hM := (s_if hM).2 c1
        refine lv_aload_n hx hb dX9_turnFirst_9 rfl (lv_at hl 0 rfl) ?_
        refine va_get (ci := 8) (v := .ref q_t_queueNow) (C := RX9) (T := TX9) (N := 31) hx hb hts iX9 hown hK.1 hP 0 rfl rfl 14 (Nat.le_of_ble_eq_true rfl) k0 (fun _ h9 => h9) rfl dX9_turnFirst_10 ?_
        refine lv_iload_n hx hb dX9_turnFirst_13 rfl (lv_at hl 2 rfl) ?_
        obtain ⟨h2, hM⟩ := s_ck hM
        refine va_iald hx hb hK.1 hP 1 0 rfl rfl h2 dX9_turnFirst_14 ?_
        refine lv_topi (fun y3 ey3 => ?_)
        have hM := s_lt hM y3 ey3
        refine lv_istore_n (lv' := [(3, .int y3), (0, .ref q_t), (1, .int p_many), (2, .int x2)]) hx hb dX9_turnFirst_15 rfl hl (Nat.le_of_ble_eq_true rfl) rfl (fun ls hl => ?_)
        refine lv_aload_n hx hb dX9_turnFirst_16 rfl (lv_at hl 1 rfl) ?_
        refine va_get (ci := 8) (v := .ref q_t_queueNow) (C := RX9) (T := TX9) (N := 31) hx hb hts iX9 hown hK.1 hP 0 rfl rfl 14 (Nat.le_of_ble_eq_true rfl) k0 (fun _ h9 => h9) rfl dX9_turnFirst_17 ?_
        refine lv_iload_n hx hb dX9_turnFirst_20 rfl (lv_at hl 3 rfl) ?_
        refine lv_aload_n hx hb dX9_turnFirst_21 rfl (lv_at hl 1 rfl) ?_
        refine va_get (ci := 8) (v := .ref q_t_queueNow) (C := RX9) (T := TX9) (N := 31) hx hb hts iX9 hown hK.1 hP 0 rfl rfl 14 (Nat.le_of_ble_eq_true rfl) k0 (fun _ h9 => h9) rfl dX9_turnFirst_22 ?_
        refine lv_iload_n hx hb dX9_turnFirst_25 rfl (lv_at hl 2 rfl) ?_
        refine lv_iconst (v := 1) hx hb dX9_turnFirst_26 (by decide) ?_
        refine lv_isub hx hb dX9_turnFirst_27 ?_
        refine lv_iload_n hx hb dX9_turnFirst_28 rfl (lv_at hl 3 rfl) ?_
        refine lv_isub hx hb dX9_turnFirst_29 ?_
        obtain ⟨h4, hM⟩ := s_ck hM
        refine va_iald hx hb hK.1 hP 1 0 rfl rfl h4 dX9_turnFirst_30 ?_
        refine lv_topi (fun y5 ey5 => ?_)
        have hM := s_lt hM y5 ey5
        obtain ⟨h6, hM⟩ := s_ck hM
        refine va_iast hx hb hK.1 hP hD hS 1 0 rfl rfl h6 dX9_turnFirst_31 (fun H locs hP hD hS => ?_)
        have hP : va_P D vwCl (w_Mo_turnFirst cI cJ cS q_t q_t_kindOf q_t_comes q_t_wants q_t_runs q_t_readKind q_t_readComes q_t_readWants q_t_queueNow q_t_servedAt q_t_comesWas q_t_readingOf q_t_readingAt q_t_sheetSize q_t_sheetLane q_t_sheet q_t_hands t_fault t_persons t_law t_bellSet t_readAt t_readLaw t_readMany t_queueMany t_servedNow t_doneAt t_readings t_whichMany t_whichOne t_whichTwo t_traceNow (upd t_queueNow x2.toNatClampNeg y5)) H := hP
        have hD : va_D A (w_Mo_turnFirst cI cJ cS q_t q_t_kindOf q_t_comes q_t_wants q_t_runs q_t_readKind q_t_readComes q_t_readWants q_t_queueNow q_t_servedAt q_t_comesWas q_t_readingOf q_t_readingAt q_t_sheetSize q_t_sheetLane q_t_sheet q_t_hands t_fault t_persons t_law t_bellSet t_readAt t_readLaw t_readMany t_queueMany t_servedNow t_doneAt t_readings t_whichMany t_whichOne t_whichTwo t_traceNow (upd t_queueNow x2.toNatClampNeg y5)) := hD
        refine lv_aload_n hx hb dX9_turnFirst_32 rfl (lv_at hl 1 rfl) ?_
        refine va_get (ci := 8) (v := .ref q_t_queueNow) (C := RX9) (T := TX9) (N := 31) hx hb hts iX9 hown hK.1 hP 0 rfl rfl 14 (Nat.le_of_ble_eq_true rfl) k0 (fun _ h9 => h9) rfl dX9_turnFirst_33 ?_
        refine lv_iload_n hx hb dX9_turnFirst_36 rfl (lv_at hl 2 rfl) ?_
        refine lv_iconst (v := 1) hx hb dX9_turnFirst_37 (by decide) ?_
        refine lv_isub hx hb dX9_turnFirst_38 ?_
        refine lv_iload_n hx hb dX9_turnFirst_39 rfl (lv_at hl 3 rfl) ?_
        refine lv_isub hx hb dX9_turnFirst_40 ?_
        refine lv_iload_n hx hb dX9_turnFirst_41 rfl (lv_at hl 0 rfl) ?_
        obtain ⟨h7, hM⟩ := s_ck hM
        refine va_iast hx hb hK.1 hP hD hS 1 0 rfl rfl h7 dX9_turnFirst_42 (fun H locs hP hD hS => ?_)
        have hP : va_P D vwCl (w_Mo_turnFirst cI cJ cS q_t q_t_kindOf q_t_comes q_t_wants q_t_runs q_t_readKind q_t_readComes q_t_readWants q_t_queueNow q_t_servedAt q_t_comesWas q_t_readingOf q_t_readingAt q_t_sheetSize q_t_sheetLane q_t_sheet q_t_hands t_fault t_persons t_law t_bellSet t_readAt t_readLaw t_readMany t_queueMany t_servedNow t_doneAt t_readings t_whichMany t_whichOne t_whichTwo t_traceNow (upd (upd t_queueNow x2.toNatClampNeg y5) ((p_many - 1) - x2).toNatClampNeg y3)) H := hP
        have hD : va_D A (w_Mo_turnFirst cI cJ cS q_t q_t_kindOf q_t_comes q_t_wants q_t_runs q_t_readKind q_t_readComes q_t_readWants q_t_queueNow q_t_servedAt q_t_comesWas q_t_readingOf q_t_readingAt q_t_sheetSize q_t_sheetLane q_t_sheet q_t_hands t_fault t_persons t_law t_bellSet t_readAt t_readLaw t_readMany t_queueMany t_servedNow t_doneAt t_readings t_whichMany t_whichOne t_whichTwo t_traceNow (upd (upd t_queueNow x2.toNatClampNeg y5) ((p_many - 1) - x2).toNatClampNeg y3)) := hD
        obtain ⟨y8, ey8⟩ : ∃ y : Int32, y = x2 + 1 := ⟨_, rfl⟩
        have hM := s_lt hM y8 ey8
        refine lv_iinc (v := y8) (lv' := [(2, .int y8), (3, .int y3), (0, .ref q_t), (1, .int p_many)]) hx hb dX9_turnFirst_43 hl (k := 3) rfl (by rw [ey8]; rfl) (Nat.le_of_ble_eq_true rfl) rfl (fun ls hl => ?_)
        refine lv_goto (tgt := 2) hx hb dX9_turnFirst_46 (by decide) ?_
        exact ih y8 (upd (upd t_queueNow x2.toNatClampNeg y5) ((p_many - 1) - x2).toNatClampNeg y3) (s_jp hM) _ _ hP hD hS _ (lv_sub hl [2, 3, 0] rfl)
  have J2 : ∀ (x2 : Int32) (t_queueNow : Nat → Int32), Mo_turnFirst_l2 p_many x2 t_queueNow = some o → ∀ (H : Heap) (locs : List Loc), va_P D vwCl (w_Mo_turnFirst cI cJ cS q_t q_t_kindOf q_t_comes q_t_wants q_t_runs q_t_readKind q_t_readComes q_t_readWants q_t_queueNow q_t_servedAt q_t_comesWas q_t_readingOf q_t_readingAt q_t_sheetSize q_t_sheetLane q_t_sheet q_t_hands t_fault t_persons t_law t_bellSet t_readAt t_readLaw t_readMany t_queueMany t_servedNow t_doneAt t_readings t_whichMany t_whichOne t_whichTwo t_traceNow t_queueNow) H → va_D A (w_Mo_turnFirst cI cJ cS q_t q_t_kindOf q_t_comes q_t_wants q_t_runs q_t_readKind q_t_readComes q_t_readWants q_t_queueNow q_t_servedAt q_t_comesWas q_t_readingOf q_t_readingAt q_t_sheetSize q_t_sheetLane q_t_sheet q_t_hands t_fault t_persons t_law t_bellSet t_readAt t_readLaw t_readMany t_queueMany t_servedNow t_doneAt t_readings t_whichMany t_whichOne t_whichTwo t_traceNow t_queueNow) → va_S A s.heap H locs → ∀ ls : Array Slot, lv_has ls 4 [(0, .ref q_t), (1, .int p_many), (2, .int x2)] → W p l e (headSpec wsX9_turnFirst rm_Mo_turnFirst).room s m args below meth c H locs 0 0 (MQ below (CQv D (w_Mo_turnFirst cI cJ cS q_t q_t_kindOf q_t_comes q_t_wants q_t_runs q_t_readKind q_t_readComes q_t_readWants q_t_queueNow q_t_servedAt q_t_comesWas q_t_readingOf q_t_readingAt q_t_sheetSize q_t_sheetLane q_t_sheet q_t_hands t_fault t_persons t_law t_bellSet t_readAt t_readLaw t_readMany t_queueMany t_servedNow t_doneAt t_readings t_whichMany t_whichOne t_whichTwo t_traceNow o) A) args s 0 0 A) (F0 m 2 ls []) := by
    intro x2 t_queueNow hM
    unfold Mo_turnFirst_l2 at hM
    obtain ⟨n0, hM⟩ := fin_some hM
    exact (L2 n0) x2 t_queueNow hM
  unfold Mo_turnFirst at hM
  refine lv_iconst (v := 0) hx hb dX9_turnFirst_0 (by decide) ?_
  refine lv_istore_n (lv' := [(2, .int 0), (0, .ref q_t), (1, .int p_many)]) hx hb dX9_turnFirst_1 rfl hl (Nat.le_of_ble_eq_true rfl) rfl (fun ls hl => ?_)
  exact J2 0 t_queueNow hM _ _ hP hD hS _ (lv_sub hl [1, 2, 0] rfl)
/-! ===== TurnQueueModel.turnAll ===== -/
abbrev w_Mo_turnAll (cI cJ cS : ClassId) (q_t : Nat) (q_t_kindOf : Nat) (q_t_comes : Nat) (q_t_wants : Nat) (q_t_runs : Nat) (q_t_readKind : Nat) (q_t_readComes : Nat) (q_t_readWants : Nat) (q_t_queueNow : Nat) (q_t_servedAt : Nat) (q_t_comesWas : Nat) (q_t_readingOf : Nat) (q_t_readingAt : Nat) (q_t_sheetSize : Nat) (q_t_sheetLane : Nat) (q_t_sheet : Nat) (q_t_hands : Nat) (t_fault : Int32) (t_persons : Int32) (t_law : Int32) (t_bellSet : Int64) (t_readAt : Int32) (t_readLaw : Int32) (t_readMany : Int32) (t_queueMany : Int32) (t_servedNow : Int32) (t_doneAt : Int32) (t_readings : Int32) (t_whichMany : Int32) (t_whichOne : Int32) (t_whichTwo : Int32) (t_traceNow : Int32) (t_queueNow : Nat → Int32) : va_W := [(q_t, .inr (8, [.int t_fault, .int t_persons, .int t_law, .ref q_t_kindOf, .ref q_t_comes, .ref q_t_wants, .ref q_t_runs, .long t_bellSet, .int t_readAt, .int t_readLaw, .int t_readMany, .ref q_t_readKind, .ref q_t_readComes, .ref q_t_readWants, .ref q_t_queueNow, .int t_queueMany, .int t_servedNow, .int t_doneAt, .ref q_t_servedAt, .ref q_t_comesWas, .int t_readings, .ref q_t_readingOf, .ref q_t_readingAt, .int t_whichMany, .int t_whichOne, .int t_whichTwo, .ref q_t_sheetSize, .ref q_t_sheetLane, .ref q_t_sheet, .ref q_t_hands, .int t_traceNow])), (q_t_queueNow, ar cI 7 t_queueNow)]
abbrev rm_Mo_turnAll : Room := { frames := 1, cells := 0, slots := 0, locals := 23 }
noncomputable def Mo_turnAll_j33 (t_law : Int32) (t_queueMany : Int32) (t_queueNow : Nat → Int32) : Option (Int32 × (Nat → Int32)) :=
  if t_law = 2 then
    if t_queueMany ≤ 0 then
      some (t_queueMany, t_queueNow)
    else
      if ck (t_queueMany - 1) 7 = true then
        lt (t_queueNow (t_queueMany - 1).toNatClampNeg) fun y6 =>
        lt (t_queueMany - 1) fun y7 =>
        (Mo_standAt 0 y6 y7 t_queueNow).bind fun y8 =>
        some (y8.1, y8.2)
      else none
  else
    some (t_queueMany, t_queueNow)
noncomputable def Mo_turnAll_j15 (t_law : Int32) (t_queueMany : Int32) (t_queueNow : Nat → Int32) : Option (Int32 × (Nat → Int32)) :=
  if t_law = 1 then
    (Mo_turnFirst (t_queueMany / 2) t_queueNow).bind fun y10 =>
    Mo_turnAll_j33 t_law t_queueMany y10
  else
    Mo_turnAll_j33 t_law t_queueMany t_queueNow
noncomputable def Mo_turnAll (t_law : Int32) (t_queueMany : Int32) (t_queueNow : Nat → Int32) : Option (Int32 × (Nat → Int32)) :=
  if t_law = 0 then
    (Mo_turnFirst t_queueMany t_queueNow).bind fun y12 =>
    Mo_turnAll_j15 t_law t_queueMany y12
  else
    Mo_turnAll_j15 t_law t_queueMany t_queueNow
set_option maxRecDepth 100000 in
set_option maxHeartbeats 4000000 in
theorem c_Mo_turnAll (l : Launch) (D : va_G) (cI cJ cS : ClassId) (q_t q_t_kindOf q_t_comes q_t_wants q_t_runs q_t_readKind q_t_readComes q_t_readWants q_t_queueNow q_t_servedAt q_t_comesWas q_t_readingOf q_t_readingAt q_t_sheetSize q_t_sheetLane q_t_sheet q_t_hands : Nat) (t_fault : Int32) (t_persons : Int32) (t_law : Int32) (t_bellSet : Int64) (t_readAt : Int32) (t_readLaw : Int32) (t_readMany : Int32) (t_queueMany : Int32) (t_servedNow : Int32) (t_doneAt : Int32) (t_readings : Int32) (t_whichMany : Int32) (t_whichOne : Int32) (t_whichTwo : Int32) (t_traceNow : Int32) (t_queueNow : Nat → Int32) (o : Int32 × (Nat → Int32)) (hM : Mo_turnAll t_law t_queueMany t_queueNow = some o) : Cv l yX9_turnAll wsX9_turnAll rm_Mo_turnAll D cI cJ cS [.ref q_t] (w_Mo_turnAll cI cJ cS q_t q_t_kindOf q_t_comes q_t_wants q_t_runs q_t_readKind q_t_readComes q_t_readWants q_t_queueNow q_t_servedAt q_t_comesWas q_t_readingOf q_t_readingAt q_t_sheetSize q_t_sheetLane q_t_sheet q_t_hands t_fault t_persons t_law t_bellSet t_readAt t_readLaw t_readMany t_queueMany t_servedNow t_doneAt t_readings t_whichMany t_whichOne t_whichTwo t_traceNow t_queueNow) (w_Mo_turnAll cI cJ cS q_t q_t_kindOf q_t_comes q_t_wants q_t_runs q_t_readKind q_t_readComes q_t_readWants q_t_queueNow q_t_servedAt q_t_comesWas q_t_readingOf q_t_readingAt q_t_sheetSize q_t_sheetLane q_t_sheet q_t_hands t_fault t_persons t_law t_bellSet t_readAt t_readLaw t_readMany o.1 t_servedNow t_doneAt t_readings t_whichMany t_whichOne t_whichTwo t_traceNow o.2) := by
  refine Cv.of (cc := cX9_turnAll) (maxL := 2) (ret := none) (by decide) rfl (Nat.le_of_ble_eq_true rfl) ?_
  intro p e s m args below meth c A ls hE
  obtain ⟨hx, hb, hr, hml, hown, hts, hlocks, hK, hA, hP, hD, hS, hl⟩ := hE
  have hown : s.vm.findClass RX9 = some m.cls := hown
  have hl : lv_has ls 2 [(0, .ref q_t)] := hl
  have iX9 : ∀ w ∈ u_ws RX9 TX9 31, w ∈ wsX9_turnAll := by decide +kernel
  have k0 := hts (.fieldLink RX9 118 "TurnQueueModel" "law" "I") (by decide +kernel)
  have k1 := hts (.fieldLink RX9 140 "TurnQueueModel" "queueMany" "I") (by decide +kernel)
  have k2 := hts (.fieldLink RX9 31 "TurnQueueModel" "queueNow" "[I") (by decide +kernel)
  have J33 : ∀ (t_queueMany : Int32) (t_queueNow : Nat → Int32), Mo_turnAll_j33 t_law t_queueMany t_queueNow = some o → ∀ (H : Heap) (locs : List Loc), va_P D vwCl (w_Mo_turnAll cI cJ cS q_t q_t_kindOf q_t_comes q_t_wants q_t_runs q_t_readKind q_t_readComes q_t_readWants q_t_queueNow q_t_servedAt q_t_comesWas q_t_readingOf q_t_readingAt q_t_sheetSize q_t_sheetLane q_t_sheet q_t_hands t_fault t_persons t_law t_bellSet t_readAt t_readLaw t_readMany t_queueMany t_servedNow t_doneAt t_readings t_whichMany t_whichOne t_whichTwo t_traceNow t_queueNow) H → va_D A (w_Mo_turnAll cI cJ cS q_t q_t_kindOf q_t_comes q_t_wants q_t_runs q_t_readKind q_t_readComes q_t_readWants q_t_queueNow q_t_servedAt q_t_comesWas q_t_readingOf q_t_readingAt q_t_sheetSize q_t_sheetLane q_t_sheet q_t_hands t_fault t_persons t_law t_bellSet t_readAt t_readLaw t_readMany t_queueMany t_servedNow t_doneAt t_readings t_whichMany t_whichOne t_whichTwo t_traceNow t_queueNow) → va_S A s.heap H locs → ∀ ls : Array Slot, lv_has ls 2 [(0, .ref q_t)] → W p l e (headSpec wsX9_turnAll rm_Mo_turnAll).room s m args below meth c H locs 0 0 (MQ below (CQv D (w_Mo_turnAll cI cJ cS q_t q_t_kindOf q_t_comes q_t_wants q_t_runs q_t_readKind q_t_readComes q_t_readWants q_t_queueNow q_t_servedAt q_t_comesWas q_t_readingOf q_t_readingAt q_t_sheetSize q_t_sheetLane q_t_sheet q_t_hands t_fault t_persons t_law t_bellSet t_readAt t_readLaw t_readMany o.1 t_servedNow t_doneAt t_readings t_whichMany t_whichOne t_whichTwo t_traceNow o.2) A) args s 0 0 A) (F0 m 33 ls []) := by
    intro t_queueMany t_queueNow hM H locs hP hD hS ls hl
    unfold Mo_turnAll_j33 at hM
    refine lv_aload_n hx hb dX9_turnAll_33 rfl (lv_at hl 0 rfl) ?_
    refine va_get (ci := 8) (v := .int t_law) (C := RX9) (T := TX9) (N := 31) hx hb hts iX9 hown hK.1 hP 0 rfl rfl 2 (Nat.le_of_ble_eq_true rfl) k0 (fun _ h9 => h9) rfl dX9_turnAll_34 ?_
    refine lv_iconst (v := 2) hx hb dX9_turnAll_37 (by decide) ?_
    refine lv_icmp_ne (tgt := 76) hx hb dX9_turnAll_38 (by decide) (fun c3 => ?_) (fun c3 => ?_)
    · have hM := (o_if hM).2 c3
      have hM := (Option.some.inj hM)
      subst hM
      exact rt_v hx hb hr hlocks hP hD hS dX9_turnAll_76
    · have hM := (o_if hM).1 c3
      refine lv_aload_n hx hb dX9_turnAll_41 rfl (lv_at hl 0 rfl) ?_
      refine va_get (ci := 8) (v := .int t_queueMany) (C := RX9) (T := TX9) (N := 31) hx hb hts iX9 hown hK.1 hP 0 rfl rfl 15 (Nat.le_of_ble_eq_true rfl) k1 (fun _ h9 => h9) rfl dX9_turnAll_42 ?_
      refine lv_if_le (tgt := 76) hx hb dX9_turnAll_45 (by decide) (fun c4 => ?_) (fun c4 => ?_)
      · have hM := (o_if hM).1 c4
        have hM := (Option.some.inj hM)
        subst hM
        exact rt_v hx hb hr hlocks hP hD hS dX9_turnAll_76
      · have hM := (o_if hM).2 c4
        refine lv_aload_n hx hb dX9_turnAll_48 rfl (lv_at hl 0 rfl) ?_
        refine va_get (ci := 8) (v := .ref q_t_queueNow) (C := RX9) (T := TX9) (N := 31) hx hb hts iX9 hown hK.1 hP 0 rfl rfl 14 (Nat.le_of_ble_eq_true rfl) k2 (fun _ h9 => h9) rfl dX9_turnAll_49 ?_
        refine lv_aload_n hx hb dX9_turnAll_52 rfl (lv_at hl 0 rfl) ?_
        refine va_get (ci := 8) (v := .int t_queueMany) (C := RX9) (T := TX9) (N := 31) hx hb hts iX9 hown hK.1 hP 0 rfl rfl 15 (Nat.le_of_ble_eq_true rfl) k1 (fun _ h9 => h9) rfl dX9_turnAll_53 ?_
        refine lv_iconst (v := 1) hx hb dX9_turnAll_56 (by decide) ?_
        refine lv_isub hx hb dX9_turnAll_57 ?_
        obtain ⟨h5, hM⟩ := o_ck hM
        refine va_iald hx hb hK.1 hP 1 0 rfl rfl h5 dX9_turnAll_58 ?_
        refine lv_topi (fun y6 ey6 => ?_)
        have hM := o_lt hM y6 ey6
        refine lv_istore_n (lv' := [(1, .int y6), (0, .ref q_t)]) hx hb dX9_turnAll_59 rfl hl (Nat.le_of_ble_eq_true rfl) rfl (fun ls hl => ?_)
        refine lv_aload_n hx hb dX9_turnAll_60 rfl (lv_at hl 1 rfl) ?_
        refine lv_dup hx hb dX9_turnAll_61 rfl ?_
        refine va_get (ci := 8) (v := .int t_queueMany) (C := RX9) (T := TX9) (N := 31) hx hb hts iX9 hown hK.1 hP 0 rfl rfl 15 (Nat.le_of_ble_eq_true rfl) k1 (fun _ h9 => h9) rfl dX9_turnAll_62 ?_
        refine lv_iconst (v := 1) hx hb dX9_turnAll_65 (by decide) ?_
        refine lv_isub hx hb dX9_turnAll_66 ?_
        refine lv_topi (fun y7 ey7 => ?_)
        have hM := o_lt hM y7 ey7
        refine va_put (ci := 8) (v := .int y7) (ty := .int) (C := RX9) (T := TX9) (N := 31) hx hb hts iX9 tyX9 tyX9_ok nmX9 hown hK.1 hP hD hS 0 rfl rfl 15 (Nat.le_of_ble_eq_true rfl) k1 (fun _ h9 => h9) rfl (tyX9_ok 15 (Nat.le_of_ble_eq_true rfl)) rfl rfl (Nat.le_of_ble_eq_true rfl) dX9_turnAll_67 (fun H locs hP hD hS => ?_)
        have hP : va_P D vwCl (w_Mo_turnAll cI cJ cS q_t q_t_kindOf q_t_comes q_t_wants q_t_runs q_t_readKind q_t_readComes q_t_readWants q_t_queueNow q_t_servedAt q_t_comesWas q_t_readingOf q_t_readingAt q_t_sheetSize q_t_sheetLane q_t_sheet q_t_hands t_fault t_persons t_law t_bellSet t_readAt t_readLaw t_readMany y7 t_servedNow t_doneAt t_readings t_whichMany t_whichOne t_whichTwo t_traceNow t_queueNow) H := hP
        have hD : va_D A (w_Mo_turnAll cI cJ cS q_t q_t_kindOf q_t_comes q_t_wants q_t_runs q_t_readKind q_t_readComes q_t_readWants q_t_queueNow q_t_servedAt q_t_comesWas q_t_readingOf q_t_readingAt q_t_sheetSize q_t_sheetLane q_t_sheet q_t_hands t_fault t_persons t_law t_bellSet t_readAt t_readLaw t_readMany y7 t_servedNow t_doneAt t_readings t_whichMany t_whichOne t_whichTwo t_traceNow t_queueNow) := hD
        refine lv_aload_n hx hb dX9_turnAll_70 rfl (lv_at hl 1 rfl) ?_
        refine lv_iconst (v := 0) hx hb dX9_turnAll_71 (by decide) ?_
        refine lv_iload_n hx hb dX9_turnAll_72 rfl (lv_at hl 0 rfl) ?_
        obtain ⟨y8, h9, hM⟩ := o_bd hM
        refine af_v (ws2 := (w_Mo_turnAll cI cJ cS q_t q_t_kindOf q_t_comes q_t_wants q_t_runs q_t_readKind q_t_readComes q_t_readWants q_t_queueNow q_t_servedAt q_t_comesWas q_t_readingOf q_t_readingAt q_t_sheetSize q_t_sheetLane q_t_sheet q_t_hands t_fault t_persons t_law t_bellSet t_readAt t_readLaw t_readMany y8.1 t_servedNow t_doneAt t_readings t_whichMany t_whichOne t_whichTwo t_traceNow y8.2)) (va_runV (As := [.int 0, .int y6]) (rest := []) ⟨hx, hb, hml, hown, hts⟩ (c_Mo_standAt l D cI cJ cS q_t q_t_kindOf q_t_comes q_t_wants q_t_runs q_t_readKind q_t_readComes q_t_readWants q_t_queueNow q_t_servedAt q_t_comesWas q_t_readingOf q_t_readingAt q_t_sheetSize q_t_sheetLane q_t_sheet q_t_hands t_fault t_persons t_law t_bellSet t_readAt t_readLaw t_readMany y7 t_servedNow t_doneAt t_readings t_whichMany t_whichOne t_whichTwo t_traceNow t_queueNow 0 y6 y8 h9 _) (cwV 2 hts gX9_turnAll_X9_standAt rfl rfl rfl (by decide +kernel) ⟨(Nat.le_of_ble_eq_true rfl), (Nat.le_of_ble_eq_true rfl)⟩) (pre_V hK hP hD [0, 1] rfl rfl rfl rfl) rfl rfl hl.1 rfl (lv_room (Nat.le_of_ble_eq_true rfl)) dX9_turnAll_73 ⟨Nat.zero_le _, Nat.zero_le _⟩) hP hD hS hA [0, 1] [] [0, 1] rfl rfl rfl (by decide) rfl rfl (fun H locs hP hD hS => ?_)
        have hM := (Option.some.inj hM)
        subst hM
        exact rt_v hx hb hr hlocks hP hD hS dX9_turnAll_76
  have J15 : ∀ (t_queueMany : Int32) (t_queueNow : Nat → Int32), Mo_turnAll_j15 t_law t_queueMany t_queueNow = some o → ∀ (H : Heap) (locs : List Loc), va_P D vwCl (w_Mo_turnAll cI cJ cS q_t q_t_kindOf q_t_comes q_t_wants q_t_runs q_t_readKind q_t_readComes q_t_readWants q_t_queueNow q_t_servedAt q_t_comesWas q_t_readingOf q_t_readingAt q_t_sheetSize q_t_sheetLane q_t_sheet q_t_hands t_fault t_persons t_law t_bellSet t_readAt t_readLaw t_readMany t_queueMany t_servedNow t_doneAt t_readings t_whichMany t_whichOne t_whichTwo t_traceNow t_queueNow) H → va_D A (w_Mo_turnAll cI cJ cS q_t q_t_kindOf q_t_comes q_t_wants q_t_runs q_t_readKind q_t_readComes q_t_readWants q_t_queueNow q_t_servedAt q_t_comesWas q_t_readingOf q_t_readingAt q_t_sheetSize q_t_sheetLane q_t_sheet q_t_hands t_fault t_persons t_law t_bellSet t_readAt t_readLaw t_readMany t_queueMany t_servedNow t_doneAt t_readings t_whichMany t_whichOne t_whichTwo t_traceNow t_queueNow) → va_S A s.heap H locs → ∀ ls : Array Slot, lv_has ls 2 [(0, .ref q_t)] → W p l e (headSpec wsX9_turnAll rm_Mo_turnAll).room s m args below meth c H locs 0 0 (MQ below (CQv D (w_Mo_turnAll cI cJ cS q_t q_t_kindOf q_t_comes q_t_wants q_t_runs q_t_readKind q_t_readComes q_t_readWants q_t_queueNow q_t_servedAt q_t_comesWas q_t_readingOf q_t_readingAt q_t_sheetSize q_t_sheetLane q_t_sheet q_t_hands t_fault t_persons t_law t_bellSet t_readAt t_readLaw t_readMany o.1 t_servedNow t_doneAt t_readings t_whichMany t_whichOne t_whichTwo t_traceNow o.2) A) args s 0 0 A) (F0 m 15 ls []) := by
    intro t_queueMany t_queueNow hM H locs hP hD hS ls hl
    unfold Mo_turnAll_j15 at hM
    refine lv_aload_n hx hb dX9_turnAll_15 rfl (lv_at hl 0 rfl) ?_
    refine va_get (ci := 8) (v := .int t_law) (C := RX9) (T := TX9) (N := 31) hx hb hts iX9 hown hK.1 hP 0 rfl rfl 2 (Nat.le_of_ble_eq_true rfl) k0 (fun _ h9 => h9) rfl dX9_turnAll_16 ?_
    refine lv_iconst (v := 1) hx hb dX9_turnAll_19 (by decide) ?_
    refine lv_icmp_ne (tgt := 33) hx hb dX9_turnAll_20 (by decide) (fun c2 => ?_) (fun c2 => ?_)
    · have hM := (o_if hM).2 c2
      exact J33 t_queueMany t_queueNow hM _ _ hP hD hS _ (lv_sub hl [0] rfl)
    · have hM := (o_if hM).1 c2
      refine lv_aload_n hx hb dX9_turnAll_23 rfl (lv_at hl 0 rfl) ?_
      refine lv_aload_n hx hb dX9_turnAll_24 rfl (lv_at hl 0 rfl) ?_
      refine va_get (ci := 8) (v := .int t_queueMany) (C := RX9) (T := TX9) (N := 31) hx hb hts iX9 hown hK.1 hP 0 rfl rfl 15 (Nat.le_of_ble_eq_true rfl) k1 (fun _ h9 => h9) rfl dX9_turnAll_25 ?_
      refine lv_iconst (v := 2) hx hb dX9_turnAll_28 (by decide) ?_
      refine lv_idiv hx hb dX9_turnAll_29 (by decide) ?_
      obtain ⟨y10, h11, hM⟩ := o_bd hM
      refine af_v (ws2 := (w_Mo_turnAll cI cJ cS q_t q_t_kindOf q_t_comes q_t_wants q_t_runs q_t_readKind q_t_readComes q_t_readWants q_t_queueNow q_t_servedAt q_t_comesWas q_t_readingOf q_t_readingAt q_t_sheetSize q_t_sheetLane q_t_sheet q_t_hands t_fault t_persons t_law t_bellSet t_readAt t_readLaw t_readMany t_queueMany t_servedNow t_doneAt t_readings t_whichMany t_whichOne t_whichTwo t_traceNow y10)) (va_runV (As := [.int (t_queueMany / 2)]) (rest := []) ⟨hx, hb, hml, hown, hts⟩ (c_Mo_turnFirst l D cI cJ cS q_t q_t_kindOf q_t_comes q_t_wants q_t_runs q_t_readKind q_t_readComes q_t_readWants q_t_queueNow q_t_servedAt q_t_comesWas q_t_readingOf q_t_readingAt q_t_sheetSize q_t_sheetLane q_t_sheet q_t_hands t_fault t_persons t_law t_bellSet t_readAt t_readLaw t_readMany t_queueMany t_servedNow t_doneAt t_readings t_whichMany t_whichOne t_whichTwo t_traceNow t_queueNow (t_queueMany / 2) y10 h11 _) (cwV 1 hts gX9_turnAll_X9_turnFirst rfl rfl rfl (by decide +kernel) ⟨(Nat.le_of_ble_eq_true rfl), (Nat.le_of_ble_eq_true rfl)⟩) (pre_V hK hP hD [0, 1] rfl rfl rfl rfl) rfl rfl hl.1 rfl (lv_room (Nat.le_of_ble_eq_true rfl)) dX9_turnAll_30 ⟨Nat.zero_le _, Nat.zero_le _⟩) hP hD hS hA [0, 1] [] [0, 1] rfl rfl rfl (by decide) rfl rfl (fun H locs hP hD hS => ?_)
      exact J33 t_queueMany y10 hM _ _ hP hD hS _ (lv_sub hl [0] rfl)
  unfold Mo_turnAll at hM
  refine lv_aload_n hx hb dX9_turnAll_0 rfl (lv_at hl 0 rfl) ?_
  refine va_get (ci := 8) (v := .int t_law) (C := RX9) (T := TX9) (N := 31) hx hb hts iX9 hown hK.1 hP 0 rfl rfl 2 (Nat.le_of_ble_eq_true rfl) k0 (fun _ h9 => h9) rfl dX9_turnAll_1 ?_
  refine lv_if_ne (tgt := 15) hx hb dX9_turnAll_4 (by decide) (fun c1 => ?_) (fun c1 => ?_)
  · have hM := (o_if hM).2 c1
    exact J15 t_queueMany t_queueNow hM _ _ hP hD hS _ (lv_sub hl [0] rfl)
  · have hM := (o_if hM).1 c1
    refine lv_aload_n hx hb dX9_turnAll_7 rfl (lv_at hl 0 rfl) ?_
    refine lv_aload_n hx hb dX9_turnAll_8 rfl (lv_at hl 0 rfl) ?_
    refine va_get (ci := 8) (v := .int t_queueMany) (C := RX9) (T := TX9) (N := 31) hx hb hts iX9 hown hK.1 hP 0 rfl rfl 15 (Nat.le_of_ble_eq_true rfl) k1 (fun _ h9 => h9) rfl dX9_turnAll_9 ?_
    obtain ⟨y12, h13, hM⟩ := o_bd hM
    refine af_v (ws2 := (w_Mo_turnAll cI cJ cS q_t q_t_kindOf q_t_comes q_t_wants q_t_runs q_t_readKind q_t_readComes q_t_readWants q_t_queueNow q_t_servedAt q_t_comesWas q_t_readingOf q_t_readingAt q_t_sheetSize q_t_sheetLane q_t_sheet q_t_hands t_fault t_persons t_law t_bellSet t_readAt t_readLaw t_readMany t_queueMany t_servedNow t_doneAt t_readings t_whichMany t_whichOne t_whichTwo t_traceNow y12)) (va_runV (As := [.int t_queueMany]) (rest := []) ⟨hx, hb, hml, hown, hts⟩ (c_Mo_turnFirst l D cI cJ cS q_t q_t_kindOf q_t_comes q_t_wants q_t_runs q_t_readKind q_t_readComes q_t_readWants q_t_queueNow q_t_servedAt q_t_comesWas q_t_readingOf q_t_readingAt q_t_sheetSize q_t_sheetLane q_t_sheet q_t_hands t_fault t_persons t_law t_bellSet t_readAt t_readLaw t_readMany t_queueMany t_servedNow t_doneAt t_readings t_whichMany t_whichOne t_whichTwo t_traceNow t_queueNow t_queueMany y12 h13 _) (cwV 1 hts gX9_turnAll_X9_turnFirst rfl rfl rfl (by decide +kernel) ⟨(Nat.le_of_ble_eq_true rfl), (Nat.le_of_ble_eq_true rfl)⟩) (pre_V hK hP hD [0, 1] rfl rfl rfl rfl) rfl rfl hl.1 rfl (lv_room (Nat.le_of_ble_eq_true rfl)) dX9_turnAll_12 ⟨Nat.zero_le _, Nat.zero_le _⟩) hP hD hS hA [0, 1] [] [0, 1] rfl rfl rfl (by decide) rfl rfl (fun H locs hP hD hS => ?_)
    exact J15 t_queueMany y12 hM _ _ hP hD hS _ (lv_sub hl [0] rfl)
/-! ===== TurnQueueModel.goMinute ===== -/
abbrev w_Mo_goMinute (cI cJ cS : ClassId) (q_t : Nat) (q_t_kindOf : Nat) (q_t_comes : Nat) (q_t_wants : Nat) (q_t_runs : Nat) (q_t_readKind : Nat) (q_t_readComes : Nat) (q_t_readWants : Nat) (q_t_queueNow : Nat) (q_t_servedAt : Nat) (q_t_comesWas : Nat) (q_t_readingOf : Nat) (q_t_readingAt : Nat) (q_t_sheetSize : Nat) (q_t_sheetLane : Nat) (q_t_sheet : Nat) (q_t_hands : Nat) (t_fault : Int32) (t_persons : Int32) (t_law : Int32) (t_bellSet : Int64) (t_readAt : Int32) (t_readLaw : Int32) (t_readMany : Int32) (t_queueMany : Int32) (t_servedNow : Int32) (t_doneAt : Int32) (t_readings : Int32) (t_whichMany : Int32) (t_whichOne : Int32) (t_whichTwo : Int32) (t_traceNow : Int32) (t_kindOf : Nat → Int32) (t_comes : Nat → Int32) (t_wants : Nat → Int32) (t_runs : Nat → Int32) (t_queueNow : Nat → Int32) (t_servedAt : Nat → Int32) : va_W := [(q_t, .inr (8, [.int t_fault, .int t_persons, .int t_law, .ref q_t_kindOf, .ref q_t_comes, .ref q_t_wants, .ref q_t_runs, .long t_bellSet, .int t_readAt, .int t_readLaw, .int t_readMany, .ref q_t_readKind, .ref q_t_readComes, .ref q_t_readWants, .ref q_t_queueNow, .int t_queueMany, .int t_servedNow, .int t_doneAt, .ref q_t_servedAt, .ref q_t_comesWas, .int t_readings, .ref q_t_readingOf, .ref q_t_readingAt, .int t_whichMany, .int t_whichOne, .int t_whichTwo, .ref q_t_sheetSize, .ref q_t_sheetLane, .ref q_t_sheet, .ref q_t_hands, .int t_traceNow])), (q_t_kindOf, ar cI 7 t_kindOf), (q_t_comes, ar cI 7 t_comes), (q_t_wants, ar cI 7 t_wants), (q_t_runs, ar cI 7 t_runs), (q_t_queueNow, ar cI 7 t_queueNow), (q_t_servedAt, ar cI 7 t_servedAt)]
abbrev rm_Mo_goMinute : Room := { frames := 2, cells := 0, slots := 0, locals := 44 }
noncomputable def Mo_goMinute_j147 (p_minute : Int32) (p_who : Int32) (p_set : Int64) (t_persons : Int32) (t_law : Int32) (t_kindOf : Nat → Int32) (t_comes : Nat → Int32) (t_wants : Nat → Int32) (t_runs : Nat → Int32) (t_queueMany : Int32) (t_servedNow : Int32) (t_doneAt : Int32) (t_queueNow : Nat → Int32) (t_servedAt : Nat → Int32) : Option (Int32 × Int32 × Int32 × (Nat → Int32) × (Nat → Int32)) :=
  if 0 ≤ t_servedNow then
    some (t_queueMany, t_servedNow, t_doneAt, t_queueNow, t_servedAt)
  else
    if t_queueMany ≤ 0 then
      some (t_queueMany, t_servedNow, t_doneAt, t_queueNow, t_servedAt)
    else
      if ck 0 7 = true then
        lt (t_queueNow (0 : Int32).toNatClampNeg) fun y10 =>
        (Mo_takeOut 0 t_queueMany t_queueNow).bind fun y11 =>
        if ck y10 7 = true then
          if ck y10 7 = true then
            lt (p_minute + (t_wants y10.toNatClampNeg)) fun y15 =>
            some (y11.1, y10, y15, y11.2, upd t_servedAt y10.toNatClampNeg p_minute)
          else none
        else none
      else none
noncomputable def Mo_goMinute_j135 (p_minute : Int32) (p_who : Int32) (p_set : Int64) (t_persons : Int32) (t_law : Int32) (t_kindOf : Nat → Int32) (t_comes : Nat → Int32) (t_wants : Nat → Int32) (t_runs : Nat → Int32) (t_queueMany : Int32) (t_servedNow : Int32) (t_doneAt : Int32) (t_queueNow : Nat → Int32) (t_servedAt : Nat → Int32) : Option (Int32 × Int32 × Int32 × (Nat → Int32) × (Nat → Int32)) :=
  (Mo_isBell p_set p_minute).bind fun y4 =>
  if y4 = 0 then
    Mo_goMinute_j147 p_minute p_who p_set t_persons t_law t_kindOf t_comes t_wants t_runs t_queueMany t_servedNow t_doneAt t_queueNow t_servedAt
  else
    (Mo_turnAll t_law t_queueMany t_queueNow).bind fun y16 =>
    Mo_goMinute_j147 p_minute p_who p_set t_persons t_law t_kindOf t_comes t_wants t_runs y16.1 t_servedNow t_doneAt y16.2 t_servedAt
noncomputable def Mo_goMinute_b87 (p_minute : Int32) (p_who : Int32) (p_set : Int64) (t_persons : Int32) (t_law : Int32) (t_kindOf : Nat → Int32) (t_comes : Nat → Int32) (t_wants : Nat → Int32) (t_runs : Nat → Int32) (x5 : Int32) (t_queueMany : Int32) (t_servedNow : Int32) (t_doneAt : Int32) (t_queueNow : Nat → Int32) (t_servedAt : Nat → Int32) : Option ((Int32 × Int32 × Int32 × Int32 × (Nat → Int32) × (Nat → Int32)) ⊕ (Int32 × Int32 × Int32 × (Nat → Int32) × (Nat → Int32))) :=
  if t_persons ≤ x5 then
    ex (Mo_goMinute_j135 p_minute p_who p_set t_persons t_law t_kindOf t_comes t_wants t_runs t_queueMany t_servedNow t_doneAt t_queueNow t_servedAt)
  else
    if ((p_who >>> (x5 &&& 31)) &&& 1) = 1 then
      if ck x5 7 = true then
        if (t_comes x5.toNatClampNeg) = p_minute then
          (Mo_placeFor x5 t_queueMany t_kindOf t_queueNow).bind fun y23 =>
          (Mo_standAt y23 x5 t_queueMany t_queueNow).bind fun y25 =>
          lt (x5 + 1) fun y27 =>
          some (.inl (y27, y25.1, t_servedNow, t_doneAt, y25.2, t_servedAt))
        else
          lt (x5 + 1) fun y22 =>
          some (.inl (y22, t_queueMany, t_servedNow, t_doneAt, t_queueNow, t_servedAt))
      else none
    else
      lt (x5 + 1) fun y19 =>
      some (.inl (y19, t_queueMany, t_servedNow, t_doneAt, t_queueNow, t_servedAt))
noncomputable def Mo_goMinute_s87 (p_minute : Int32) (p_who : Int32) (p_set : Int64) (t_persons : Int32) (t_law : Int32) (t_kindOf : Nat → Int32) (t_comes : Nat → Int32) (t_wants : Nat → Int32) (t_runs : Nat → Int32) : (Int32 × Int32 × Int32 × Int32 × (Nat → Int32) × (Nat → Int32)) → Option ((Int32 × Int32 × Int32 × Int32 × (Nat → Int32) × (Nat → Int32)) ⊕ (Int32 × Int32 × Int32 × (Nat → Int32) × (Nat → Int32))) := fun x => Mo_goMinute_b87 p_minute p_who p_set t_persons t_law t_kindOf t_comes t_wants t_runs x.1 x.2.1 x.2.2.1 x.2.2.2.1 x.2.2.2.2.1 x.2.2.2.2.2
noncomputable def Mo_goMinute_l87 (p_minute : Int32) (p_who : Int32) (p_set : Int64) (t_persons : Int32) (t_law : Int32) (t_kindOf : Nat → Int32) (t_comes : Nat → Int32) (t_wants : Nat → Int32) (t_runs : Nat → Int32) (x5 : Int32) (t_queueMany : Int32) (t_servedNow : Int32) (t_doneAt : Int32) (t_queueNow : Nat → Int32) (t_servedAt : Nat → Int32) : Option (Int32 × Int32 × Int32 × (Nat → Int32) × (Nat → Int32)) := fin (Mo_goMinute_s87 p_minute p_who p_set t_persons t_law t_kindOf t_comes t_wants t_runs) (x5, t_queueMany, t_servedNow, t_doneAt, t_queueNow, t_servedAt)
noncomputable def Mo_goMinute_j55 (p_minute : Int32) (p_who : Int32) (p_set : Int64) (t_persons : Int32) (t_law : Int32) (t_kindOf : Nat → Int32) (t_comes : Nat → Int32) (t_wants : Nat → Int32) (t_runs : Nat → Int32) (x5 : Int32) (s0 : Int32) (t_queueMany : Int32) (t_servedNow : Int32) (t_doneAt : Int32) (t_queueNow : Nat → Int32) (t_servedAt : Nat → Int32) : Option ((Int32 × Int32 × Int32 × Int32 × (Nat → Int32) × (Nat → Int32)) ⊕ (Int32 × Int32 × Int32 × (Nat → Int32) × (Nat → Int32))) :=
  if s0 < 0 then
    lt (x5 + 1) fun y31 =>
    some (.inl (y31, t_queueMany, t_servedNow, t_doneAt, t_queueNow, t_servedAt))
  else
    (Mo_takeOut s0 t_queueMany t_queueNow).bind fun y32 =>
    (Mo_standAt y32.1 x5 y32.1 y32.2).bind fun y34 =>
    lt (x5 + 1) fun y36 =>
    some (.inl (y36, y34.1, t_servedNow, t_doneAt, y34.2, t_servedAt))
noncomputable def Mo_goMinute_b24 (p_minute : Int32) (p_who : Int32) (p_set : Int64) (t_persons : Int32) (t_law : Int32) (t_kindOf : Nat → Int32) (t_comes : Nat → Int32) (t_wants : Nat → Int32) (t_runs : Nat → Int32) (x5 : Int32) (t_queueMany : Int32) (t_servedNow : Int32) (t_doneAt : Int32) (t_queueNow : Nat → Int32) (t_servedAt : Nat → Int32) : Option ((Int32 × Int32 × Int32 × Int32 × (Nat → Int32) × (Nat → Int32)) ⊕ (Int32 × Int32 × Int32 × (Nat → Int32) × (Nat → Int32))) :=
  if t_persons ≤ x5 then
    ex (Mo_goMinute_l87 p_minute p_who p_set t_persons t_law t_kindOf t_comes t_wants t_runs 0 t_queueMany t_servedNow t_doneAt t_queueNow t_servedAt)
  else
    if ck x5 7 = true then
      if (t_runs x5.toNatClampNeg) = p_minute then
        (Mo_placeOf x5 t_queueMany t_queueNow).bind fun y37 =>
        Mo_goMinute_j55 p_minute p_who p_set t_persons t_law t_kindOf t_comes t_wants t_runs x5 y37 t_queueMany t_servedNow t_doneAt t_queueNow t_servedAt
      else
        Mo_goMinute_j55 p_minute p_who p_set t_persons t_law t_kindOf t_comes t_wants t_runs x5 (-9) t_queueMany t_servedNow t_doneAt t_queueNow t_servedAt
    else none
noncomputable def Mo_goMinute_s24 (p_minute : Int32) (p_who : Int32) (p_set : Int64) (t_persons : Int32) (t_law : Int32) (t_kindOf : Nat → Int32) (t_comes : Nat → Int32) (t_wants : Nat → Int32) (t_runs : Nat → Int32) : (Int32 × Int32 × Int32 × Int32 × (Nat → Int32) × (Nat → Int32)) → Option ((Int32 × Int32 × Int32 × Int32 × (Nat → Int32) × (Nat → Int32)) ⊕ (Int32 × Int32 × Int32 × (Nat → Int32) × (Nat → Int32))) := fun x => Mo_goMinute_b24 p_minute p_who p_set t_persons t_law t_kindOf t_comes t_wants t_runs x.1 x.2.1 x.2.2.1 x.2.2.2.1 x.2.2.2.2.1 x.2.2.2.2.2
noncomputable def Mo_goMinute_l24 (p_minute : Int32) (p_who : Int32) (p_set : Int64) (t_persons : Int32) (t_law : Int32) (t_kindOf : Nat → Int32) (t_comes : Nat → Int32) (t_wants : Nat → Int32) (t_runs : Nat → Int32) (x5 : Int32) (t_queueMany : Int32) (t_servedNow : Int32) (t_doneAt : Int32) (t_queueNow : Nat → Int32) (t_servedAt : Nat → Int32) : Option (Int32 × Int32 × Int32 × (Nat → Int32) × (Nat → Int32)) := fin (Mo_goMinute_s24 p_minute p_who p_set t_persons t_law t_kindOf t_comes t_wants t_runs) (x5, t_queueMany, t_servedNow, t_doneAt, t_queueNow, t_servedAt)
noncomputable def Mo_goMinute (p_minute : Int32) (p_who : Int32) (p_set : Int64) (t_persons : Int32) (t_law : Int32) (t_kindOf : Nat → Int32) (t_comes : Nat → Int32) (t_wants : Nat → Int32) (t_runs : Nat → Int32) (t_queueMany : Int32) (t_servedNow : Int32) (t_doneAt : Int32) (t_queueNow : Nat → Int32) (t_servedAt : Nat → Int32) : Option (Int32 × Int32 × Int32 × (Nat → Int32) × (Nat → Int32)) :=
  if t_servedNow < 0 then
    Mo_goMinute_l24 p_minute p_who p_set t_persons t_law t_kindOf t_comes t_wants t_runs 0 t_queueMany t_servedNow t_doneAt t_queueNow t_servedAt
  else
    if t_doneAt = p_minute then
      Mo_goMinute_l24 p_minute p_who p_set t_persons t_law t_kindOf t_comes t_wants t_runs 0 t_queueMany (-9) t_doneAt t_queueNow t_servedAt
    else
      Mo_goMinute_l24 p_minute p_who p_set t_persons t_law t_kindOf t_comes t_wants t_runs 0 t_queueMany t_servedNow t_doneAt t_queueNow t_servedAt
theorem Mo_goMinute_l87_eq (p_minute : Int32) (p_who : Int32) (p_set : Int64) (t_persons : Int32) (t_law : Int32) (t_kindOf : Nat → Int32) (t_comes : Nat → Int32) (t_wants : Nat → Int32) (t_runs : Nat → Int32) (x5 : Int32) (t_queueMany : Int32) (t_servedNow : Int32) (t_doneAt : Int32) (t_queueNow : Nat → Int32) (t_servedAt : Nat → Int32) : Mo_goMinute_l87 p_minute p_who p_set t_persons t_law t_kindOf t_comes t_wants t_runs x5 t_queueMany t_servedNow t_doneAt t_queueNow t_servedAt = (Mo_goMinute_b87 p_minute p_who p_set t_persons t_law t_kindOf t_comes t_wants t_runs x5 t_queueMany t_servedNow t_doneAt t_queueNow t_servedAt).bind (sg (fin (Mo_goMinute_s87 p_minute p_who p_set t_persons t_law t_kindOf t_comes t_wants t_runs))) := by
  unfold Mo_goMinute_l87
  exact fin_eq _ _
theorem Mo_goMinute_l87_fd (p_minute : Int32) (p_who : Int32) (p_set : Int64) (t_persons : Int32) (t_law : Int32) (t_kindOf : Nat → Int32) (t_comes : Nat → Int32) (t_wants : Nat → Int32) (t_runs : Nat → Int32) (x5 : Int32) (t_queueMany : Int32) (t_servedNow : Int32) (t_doneAt : Int32) (t_queueNow : Nat → Int32) (t_servedAt : Nat → Int32) : fin (Mo_goMinute_s87 p_minute p_who p_set t_persons t_law t_kindOf t_comes t_wants t_runs) (x5, t_queueMany, t_servedNow, t_doneAt, t_queueNow, t_servedAt) = Mo_goMinute_l87 p_minute p_who p_set t_persons t_law t_kindOf t_comes t_wants t_runs x5 t_queueMany t_servedNow t_doneAt t_queueNow t_servedAt := rfl
theorem Mo_goMinute_l24_eq (p_minute : Int32) (p_who : Int32) (p_set : Int64) (t_persons : Int32) (t_law : Int32) (t_kindOf : Nat → Int32) (t_comes : Nat → Int32) (t_wants : Nat → Int32) (t_runs : Nat → Int32) (x5 : Int32) (t_queueMany : Int32) (t_servedNow : Int32) (t_doneAt : Int32) (t_queueNow : Nat → Int32) (t_servedAt : Nat → Int32) : Mo_goMinute_l24 p_minute p_who p_set t_persons t_law t_kindOf t_comes t_wants t_runs x5 t_queueMany t_servedNow t_doneAt t_queueNow t_servedAt = (Mo_goMinute_b24 p_minute p_who p_set t_persons t_law t_kindOf t_comes t_wants t_runs x5 t_queueMany t_servedNow t_doneAt t_queueNow t_servedAt).bind (sg (fin (Mo_goMinute_s24 p_minute p_who p_set t_persons t_law t_kindOf t_comes t_wants t_runs))) := by
  unfold Mo_goMinute_l24
  exact fin_eq _ _
theorem Mo_goMinute_l24_fd (p_minute : Int32) (p_who : Int32) (p_set : Int64) (t_persons : Int32) (t_law : Int32) (t_kindOf : Nat → Int32) (t_comes : Nat → Int32) (t_wants : Nat → Int32) (t_runs : Nat → Int32) (x5 : Int32) (t_queueMany : Int32) (t_servedNow : Int32) (t_doneAt : Int32) (t_queueNow : Nat → Int32) (t_servedAt : Nat → Int32) : fin (Mo_goMinute_s24 p_minute p_who p_set t_persons t_law t_kindOf t_comes t_wants t_runs) (x5, t_queueMany, t_servedNow, t_doneAt, t_queueNow, t_servedAt) = Mo_goMinute_l24 p_minute p_who p_set t_persons t_law t_kindOf t_comes t_wants t_runs x5 t_queueMany t_servedNow t_doneAt t_queueNow t_servedAt := rfl
set_option maxRecDepth 100000 in
set_option maxHeartbeats 4000000 in
theorem c_Mo_goMinute (l : Launch) (D : va_G) (cI cJ cS : ClassId) (q_t q_t_kindOf q_t_comes q_t_wants q_t_runs q_t_readKind q_t_readComes q_t_readWants q_t_queueNow q_t_servedAt q_t_comesWas q_t_readingOf q_t_readingAt q_t_sheetSize q_t_sheetLane q_t_sheet q_t_hands : Nat) (t_fault : Int32) (t_persons : Int32) (t_law : Int32) (t_bellSet : Int64) (t_readAt : Int32) (t_readLaw : Int32) (t_readMany : Int32) (t_queueMany : Int32) (t_servedNow : Int32) (t_doneAt : Int32) (t_readings : Int32) (t_whichMany : Int32) (t_whichOne : Int32) (t_whichTwo : Int32) (t_traceNow : Int32) (t_kindOf : Nat → Int32) (t_comes : Nat → Int32) (t_wants : Nat → Int32) (t_runs : Nat → Int32) (t_queueNow : Nat → Int32) (t_servedAt : Nat → Int32) (p_minute : Int32) (p_who : Int32) (p_set : Int64) (o : Int32 × Int32 × Int32 × (Nat → Int32) × (Nat → Int32)) (hM : Mo_goMinute p_minute p_who p_set t_persons t_law t_kindOf t_comes t_wants t_runs t_queueMany t_servedNow t_doneAt t_queueNow t_servedAt = some o) : Cv l yX9_goMinute wsX9_goMinute rm_Mo_goMinute D cI cJ cS [.ref q_t, .int p_minute, .int p_who, .long p_set] (w_Mo_goMinute cI cJ cS q_t q_t_kindOf q_t_comes q_t_wants q_t_runs q_t_readKind q_t_readComes q_t_readWants q_t_queueNow q_t_servedAt q_t_comesWas q_t_readingOf q_t_readingAt q_t_sheetSize q_t_sheetLane q_t_sheet q_t_hands t_fault t_persons t_law t_bellSet t_readAt t_readLaw t_readMany t_queueMany t_servedNow t_doneAt t_readings t_whichMany t_whichOne t_whichTwo t_traceNow t_kindOf t_comes t_wants t_runs t_queueNow t_servedAt) (w_Mo_goMinute cI cJ cS q_t q_t_kindOf q_t_comes q_t_wants q_t_runs q_t_readKind q_t_readComes q_t_readWants q_t_queueNow q_t_servedAt q_t_comesWas q_t_readingOf q_t_readingAt q_t_sheetSize q_t_sheetLane q_t_sheet q_t_hands t_fault t_persons t_law t_bellSet t_readAt t_readLaw t_readMany o.1 o.2.1 o.2.2.1 t_readings t_whichMany t_whichOne t_whichTwo t_traceNow t_kindOf t_comes t_wants t_runs o.2.2.2.1 o.2.2.2.2) := by
  refine Cv.of (cc := cX9_goMinute) (maxL := 7) (ret := none) (by decide) rfl (Nat.le_of_ble_eq_true rfl) ?_
  intro p e s m args below meth c A ls hE
  obtain ⟨hx, hb, hr, hml, hown, hts, hlocks, hK, hA, hP, hD, hS, hl⟩ := hE
  have hown : s.vm.findClass RX9 = some m.cls := hown
  have hl : lv_has ls 7 [(0, .ref q_t), (1, .int p_minute), (2, .int p_who), (3, .long p_set)] := hl
  have iX9 : ∀ w ∈ u_ws RX9 TX9 31, w ∈ wsX9_goMinute := by decide +kernel
  have k0 := hts (.fieldLink RX9 143 "TurnQueueModel" "servedNow" "I") (by decide +kernel)
  have k1 := hts (.fieldLink RX9 68 "TurnQueueModel" "persons" "I") (by decide +kernel)
  have k2 := hts (.fieldLink RX9 140 "TurnQueueModel" "queueMany" "I") (by decide +kernel)
  have k3 := hts (.fieldLink RX9 31 "TurnQueueModel" "queueNow" "[I") (by decide +kernel)
  have k4 := hts (.fieldLink RX9 34 "TurnQueueModel" "servedAt" "[I") (by decide +kernel)
  have k5 := hts (.fieldLink RX9 16 "TurnQueueModel" "wants" "[I") (by decide +kernel)
  have k6 := hts (.fieldLink RX9 154 "TurnQueueModel" "doneAt" "I") (by decide +kernel)
  have k7 := hts (.fieldLink RX9 13 "TurnQueueModel" "comes" "[I") (by decide +kernel)
  have k8 := hts (.fieldLink RX9 19 "TurnQueueModel" "runs" "[I") (by decide +kernel)
  have J147 : ∀ (t_queueMany : Int32) (t_servedNow : Int32) (t_doneAt : Int32) (t_queueNow : Nat → Int32) (t_servedAt : Nat → Int32), Mo_goMinute_j147 p_minute p_who p_set t_persons t_law t_kindOf t_comes t_wants t_runs t_queueMany t_servedNow t_doneAt t_queueNow t_servedAt = some o → ∀ (H : Heap) (locs : List Loc), va_P D vwCl (w_Mo_goMinute cI cJ cS q_t q_t_kindOf q_t_comes q_t_wants q_t_runs q_t_readKind q_t_readComes q_t_readWants q_t_queueNow q_t_servedAt q_t_comesWas q_t_readingOf q_t_readingAt q_t_sheetSize q_t_sheetLane q_t_sheet q_t_hands t_fault t_persons t_law t_bellSet t_readAt t_readLaw t_readMany t_queueMany t_servedNow t_doneAt t_readings t_whichMany t_whichOne t_whichTwo t_traceNow t_kindOf t_comes t_wants t_runs t_queueNow t_servedAt) H → va_D A (w_Mo_goMinute cI cJ cS q_t q_t_kindOf q_t_comes q_t_wants q_t_runs q_t_readKind q_t_readComes q_t_readWants q_t_queueNow q_t_servedAt q_t_comesWas q_t_readingOf q_t_readingAt q_t_sheetSize q_t_sheetLane q_t_sheet q_t_hands t_fault t_persons t_law t_bellSet t_readAt t_readLaw t_readMany t_queueMany t_servedNow t_doneAt t_readings t_whichMany t_whichOne t_whichTwo t_traceNow t_kindOf t_comes t_wants t_runs t_queueNow t_servedAt) → va_S A s.heap H locs → ∀ ls : Array Slot, lv_has ls 7 [(0, .ref q_t), (1, .int p_minute)] → W p l e (headSpec wsX9_goMinute rm_Mo_goMinute).room s m args below meth c H locs 0 0 (MQ below (CQv D (w_Mo_goMinute cI cJ cS q_t q_t_kindOf q_t_comes q_t_wants q_t_runs q_t_readKind q_t_readComes q_t_readWants q_t_queueNow q_t_servedAt q_t_comesWas q_t_readingOf q_t_readingAt q_t_sheetSize q_t_sheetLane q_t_sheet q_t_hands t_fault t_persons t_law t_bellSet t_readAt t_readLaw t_readMany o.1 o.2.1 o.2.2.1 t_readings t_whichMany t_whichOne t_whichTwo t_traceNow t_kindOf t_comes t_wants t_runs o.2.2.2.1 o.2.2.2.2) A) args s 0 0 A) (F0 m 147 ls []) := by
    intro t_queueMany t_servedNow t_doneAt t_queueNow t_servedAt hM H locs hP hD hS ls hl
    unfold Mo_goMinute_j147 at hM
    refine lv_aload_n hx hb dX9_goMinute_147 rfl (lv_at hl 0 rfl) ?_
    refine va_get (ci := 8) (v := .int t_servedNow) (C := RX9) (T := TX9) (N := 31) hx hb hts iX9 hown hK.1 hP 0 rfl rfl 16 (Nat.le_of_ble_eq_true rfl) k0 (fun _ h9 => h9) rfl dX9_goMinute_148 ?_
    refine lv_if_ge (tgt := 201) hx hb dX9_goMinute_151 (by decide) (fun c7 => ?_) (fun c7 => ?_)
    · have hM := (o_if hM).1 c7
      have hM := (Option.some.inj hM)
      subst hM
      exact rt_v hx hb hr hlocks hP hD hS dX9_goMinute_201
    · have hM := (o_if hM).2 c7
      refine lv_aload_n hx hb dX9_goMinute_154 rfl (lv_at hl 0 rfl) ?_
      refine va_get (ci := 8) (v := .int t_queueMany) (C := RX9) (T := TX9) (N := 31) hx hb hts iX9 hown hK.1 hP 0 rfl rfl 15 (Nat.le_of_ble_eq_true rfl) k2 (fun _ h9 => h9) rfl dX9_goMinute_155 ?_
      refine lv_if_le (tgt := 201) hx hb dX9_goMinute_158 (by decide) (fun c8 => ?_) (fun c8 => ?_)
      · have hM := (o_if hM).1 c8
        have hM := (Option.some.inj hM)
        subst hM
        exact rt_v hx hb hr hlocks hP hD hS dX9_goMinute_201
      · have hM := (o_if hM).2 c8
        refine lv_aload_n hx hb dX9_goMinute_161 rfl (lv_at hl 0 rfl) ?_
        refine lv_aload_n hx hb dX9_goMinute_162 rfl (lv_at hl 0 rfl) ?_
        refine va_get (ci := 8) (v := .ref q_t_queueNow) (C := RX9) (T := TX9) (N := 31) hx hb hts iX9 hown hK.1 hP 0 rfl rfl 14 (Nat.le_of_ble_eq_true rfl) k3 (fun _ h9 => h9) rfl dX9_goMinute_163 ?_
        refine lv_iconst (v := 0) hx hb dX9_goMinute_166 (by decide) ?_
        obtain ⟨h9, hM⟩ := o_ck hM
        refine va_iald hx hb hK.1 hP 5 0 rfl rfl h9 dX9_goMinute_167 ?_
        refine lv_topi (fun y10 ey10 => ?_)
        have hM := o_lt hM y10 ey10
        refine va_put (ci := 8) (v := .int y10) (ty := .int) (C := RX9) (T := TX9) (N := 31) hx hb hts iX9 tyX9 tyX9_ok nmX9 hown hK.1 hP hD hS 0 rfl rfl 16 (Nat.le_of_ble_eq_true rfl) k0 (fun _ h9 => h9) rfl (tyX9_ok 16 (Nat.le_of_ble_eq_true rfl)) rfl rfl (Nat.le_of_ble_eq_true rfl) dX9_goMinute_168 (fun H locs hP hD hS => ?_)
        have hP : va_P D vwCl (w_Mo_goMinute cI cJ cS q_t q_t_kindOf q_t_comes q_t_wants q_t_runs q_t_readKind q_t_readComes q_t_readWants q_t_queueNow q_t_servedAt q_t_comesWas q_t_readingOf q_t_readingAt q_t_sheetSize q_t_sheetLane q_t_sheet q_t_hands t_fault t_persons t_law t_bellSet t_readAt t_readLaw t_readMany t_queueMany y10 t_doneAt t_readings t_whichMany t_whichOne t_whichTwo t_traceNow t_kindOf t_comes t_wants t_runs t_queueNow t_servedAt) H := hP
        have hD : va_D A (w_Mo_goMinute cI cJ cS q_t q_t_kindOf q_t_comes q_t_wants q_t_runs q_t_readKind q_t_readComes q_t_readWants q_t_queueNow q_t_servedAt q_t_comesWas q_t_readingOf q_t_readingAt q_t_sheetSize q_t_sheetLane q_t_sheet q_t_hands t_fault t_persons t_law t_bellSet t_readAt t_readLaw t_readMany t_queueMany y10 t_doneAt t_readings t_whichMany t_whichOne t_whichTwo t_traceNow t_kindOf t_comes t_wants t_runs t_queueNow t_servedAt) := hD
        refine lv_aload_n hx hb dX9_goMinute_171 rfl (lv_at hl 0 rfl) ?_
        refine lv_iconst (v := 0) hx hb dX9_goMinute_172 (by decide) ?_
        obtain ⟨y11, h12, hM⟩ := o_bd hM
        refine af_v (ws2 := (w_Mo_goMinute cI cJ cS q_t q_t_kindOf q_t_comes q_t_wants q_t_runs q_t_readKind q_t_readComes q_t_readWants q_t_queueNow q_t_servedAt q_t_comesWas q_t_readingOf q_t_readingAt q_t_sheetSize q_t_sheetLane q_t_sheet q_t_hands t_fault t_persons t_law t_bellSet t_readAt t_readLaw t_readMany y11.1 y10 t_doneAt t_readings t_whichMany t_whichOne t_whichTwo t_traceNow t_kindOf t_comes t_wants t_runs y11.2 t_servedAt)) (va_runV (As := [.int 0]) (rest := []) ⟨hx, hb, hml, hown, hts⟩ (c_Mo_takeOut l D cI cJ cS q_t q_t_kindOf q_t_comes q_t_wants q_t_runs q_t_readKind q_t_readComes q_t_readWants q_t_queueNow q_t_servedAt q_t_comesWas q_t_readingOf q_t_readingAt q_t_sheetSize q_t_sheetLane q_t_sheet q_t_hands t_fault t_persons t_law t_bellSet t_readAt t_readLaw t_readMany t_queueMany y10 t_doneAt t_readings t_whichMany t_whichOne t_whichTwo t_traceNow t_queueNow 0 y11 h12 _) (cwV 1 hts gX9_goMinute_X9_takeOut rfl rfl rfl (by decide +kernel) ⟨(Nat.le_of_ble_eq_true rfl), (Nat.le_of_ble_eq_true rfl)⟩) (pre_V hK hP hD [0, 5] rfl rfl rfl rfl) rfl rfl hl.1 rfl (lv_room (Nat.le_of_ble_eq_true rfl)) dX9_goMinute_173 ⟨Nat.zero_le _, Nat.zero_le _⟩) hP hD hS hA [0, 5] [1, 2, 3, 4, 6] [5, 0, 1, 2, 3, 6, 4] rfl rfl rfl (by decide) rfl rfl (fun H locs hP hD hS => ?_)
        refine lv_aload_n hx hb dX9_goMinute_176 rfl (lv_at hl 0 rfl) ?_
        refine va_get (ci := 8) (v := .ref q_t_servedAt) (C := RX9) (T := TX9) (N := 31) hx hb hts iX9 hown hK.1 hP 0 rfl rfl 18 (Nat.le_of_ble_eq_true rfl) k4 (fun _ h9 => h9) rfl dX9_goMinute_177 ?_
        refine lv_aload_n hx hb dX9_goMinute_180 rfl (lv_at hl 0 rfl) ?_
        refine va_get (ci := 8) (v := .int y10) (C := RX9) (T := TX9) (N := 31) hx hb hts iX9 hown hK.1 hP 0 rfl rfl 16 (Nat.le_of_ble_eq_true rfl) k0 (fun _ h9 => h9) rfl dX9_goMinute_181 ?_
        refine lv_iload_n hx hb dX9_goMinute_184 rfl (lv_at hl 1 rfl) ?_
        obtain ⟨h13, hM⟩ := o_ck hM
        refine va_iast hx hb hK.1 hP hD hS 6 0 rfl rfl h13 dX9_goMinute_185 (fun H locs hP hD hS => ?_)
        have hP : va_P D vwCl (w_Mo_goMinute cI cJ cS q_t q_t_kindOf q_t_comes q_t_wants q_t_runs q_t_readKind q_t_readComes q_t_readWants q_t_queueNow q_t_servedAt q_t_comesWas q_t_readingOf q_t_readingAt q_t_sheetSize q_t_sheetLane q_t_sheet q_t_hands t_fault t_persons t_law t_bellSet t_readAt t_readLaw t_readMany y11.1 y10 t_doneAt t_readings t_whichMany t_whichOne t_whichTwo t_traceNow t_kindOf t_comes t_wants t_runs y11.2 (upd t_servedAt y10.toNatClampNeg p_minute)) H := hP
        have hD : va_D A (w_Mo_goMinute cI cJ cS q_t q_t_kindOf q_t_comes q_t_wants q_t_runs q_t_readKind q_t_readComes q_t_readWants q_t_queueNow q_t_servedAt q_t_comesWas q_t_readingOf q_t_readingAt q_t_sheetSize q_t_sheetLane q_t_sheet q_t_hands t_fault t_persons t_law t_bellSet t_readAt t_readLaw t_readMany y11.1 y10 t_doneAt t_readings t_whichMany t_whichOne t_whichTwo t_traceNow t_kindOf t_comes t_wants t_runs y11.2 (upd t_servedAt y10.toNatClampNeg p_minute)) := hD
        refine lv_aload_n hx hb dX9_goMinute_186 rfl (lv_at hl 0 rfl) ?_
        refine lv_iload_n hx hb dX9_goMinute_187 rfl (lv_at hl 1 rfl) ?_
        refine lv_aload_n hx hb dX9_goMinute_188 rfl (lv_at hl 0 rfl) ?_
        refine va_get (ci := 8) (v := .ref q_t_wants) (C := RX9) (T := TX9) (N := 31) hx hb hts iX9 hown hK.1 hP 0 rfl rfl 5 (Nat.le_of_ble_eq_true rfl) k5 (fun _ h9 => h9) rfl dX9_goMinute_189 ?_
        refine lv_aload_n hx hb dX9_goMinute_192 rfl (lv_at hl 0 rfl) ?_
        refine va_get (ci := 8) (v := .int y10) (C := RX9) (T := TX9) (N := 31) hx hb hts iX9 hown hK.1 hP 0 rfl rfl 16 (Nat.le_of_ble_eq_true rfl) k0 (fun _ h9 => h9) rfl dX9_goMinute_193 ?_
        obtain ⟨h14, hM⟩ := o_ck hM
        refine va_iald hx hb hK.1 hP 3 0 rfl rfl h14 dX9_goMinute_196 ?_
        refine lv_iadd hx hb dX9_goMinute_197 ?_
        refine lv_topi (fun y15 ey15 => ?_)
        have hM := o_lt hM y15 ey15
        refine va_put (ci := 8) (v := .int y15) (ty := .int) (C := RX9) (T := TX9) (N := 31) hx hb hts iX9 tyX9 tyX9_ok nmX9 hown hK.1 hP hD hS 0 rfl rfl 17 (Nat.le_of_ble_eq_true rfl) k6 (fun _ h9 => h9) rfl (tyX9_ok 17 (Nat.le_of_ble_eq_true rfl)) rfl rfl (Nat.le_of_ble_eq_true rfl) dX9_goMinute_198 (fun H locs hP hD hS => ?_)
        have hP : va_P D vwCl (w_Mo_goMinute cI cJ cS q_t q_t_kindOf q_t_comes q_t_wants q_t_runs q_t_readKind q_t_readComes q_t_readWants q_t_queueNow q_t_servedAt q_t_comesWas q_t_readingOf q_t_readingAt q_t_sheetSize q_t_sheetLane q_t_sheet q_t_hands t_fault t_persons t_law t_bellSet t_readAt t_readLaw t_readMany y11.1 y10 y15 t_readings t_whichMany t_whichOne t_whichTwo t_traceNow t_kindOf t_comes t_wants t_runs y11.2 (upd t_servedAt y10.toNatClampNeg p_minute)) H := hP
        have hD : va_D A (w_Mo_goMinute cI cJ cS q_t q_t_kindOf q_t_comes q_t_wants q_t_runs q_t_readKind q_t_readComes q_t_readWants q_t_queueNow q_t_servedAt q_t_comesWas q_t_readingOf q_t_readingAt q_t_sheetSize q_t_sheetLane q_t_sheet q_t_hands t_fault t_persons t_law t_bellSet t_readAt t_readLaw t_readMany y11.1 y10 y15 t_readings t_whichMany t_whichOne t_whichTwo t_traceNow t_kindOf t_comes t_wants t_runs y11.2 (upd t_servedAt y10.toNatClampNeg p_minute)) := hD
        have hM := (Option.some.inj hM)
        subst hM
        exact rt_v hx hb hr hlocks hP hD hS dX9_goMinute_201
  have J135 : ∀ (t_queueMany : Int32) (t_servedNow : Int32) (t_doneAt : Int32) (t_queueNow : Nat → Int32) (t_servedAt : Nat → Int32), Mo_goMinute_j135 p_minute p_who p_set t_persons t_law t_kindOf t_comes t_wants t_runs t_queueMany t_servedNow t_doneAt t_queueNow t_servedAt = some o → ∀ (H : Heap) (locs : List Loc), va_P D vwCl (w_Mo_goMinute cI cJ cS q_t q_t_kindOf q_t_comes q_t_wants q_t_runs q_t_readKind q_t_readComes q_t_readWants q_t_queueNow q_t_servedAt q_t_comesWas q_t_readingOf q_t_readingAt q_t_sheetSize q_t_sheetLane q_t_sheet q_t_hands t_fault t_persons t_law t_bellSet t_readAt t_readLaw t_readMany t_queueMany t_servedNow t_doneAt t_readings t_whichMany t_whichOne t_whichTwo t_traceNow t_kindOf t_comes t_wants t_runs t_queueNow t_servedAt) H → va_D A (w_Mo_goMinute cI cJ cS q_t q_t_kindOf q_t_comes q_t_wants q_t_runs q_t_readKind q_t_readComes q_t_readWants q_t_queueNow q_t_servedAt q_t_comesWas q_t_readingOf q_t_readingAt q_t_sheetSize q_t_sheetLane q_t_sheet q_t_hands t_fault t_persons t_law t_bellSet t_readAt t_readLaw t_readMany t_queueMany t_servedNow t_doneAt t_readings t_whichMany t_whichOne t_whichTwo t_traceNow t_kindOf t_comes t_wants t_runs t_queueNow t_servedAt) → va_S A s.heap H locs → ∀ ls : Array Slot, lv_has ls 7 [(0, .ref q_t), (1, .int p_minute), (3, .long p_set)] → W p l e (headSpec wsX9_goMinute rm_Mo_goMinute).room s m args below meth c H locs 0 0 (MQ below (CQv D (w_Mo_goMinute cI cJ cS q_t q_t_kindOf q_t_comes q_t_wants q_t_runs q_t_readKind q_t_readComes q_t_readWants q_t_queueNow q_t_servedAt q_t_comesWas q_t_readingOf q_t_readingAt q_t_sheetSize q_t_sheetLane q_t_sheet q_t_hands t_fault t_persons t_law t_bellSet t_readAt t_readLaw t_readMany o.1 o.2.1 o.2.2.1 t_readings t_whichMany t_whichOne t_whichTwo t_traceNow t_kindOf t_comes t_wants t_runs o.2.2.2.1 o.2.2.2.2) A) args s 0 0 A) (F0 m 135 ls []) := by
    intro t_queueMany t_servedNow t_doneAt t_queueNow t_servedAt hM H locs hP hD hS ls hl
    unfold Mo_goMinute_j135 at hM
    refine lv_lload_n hx hb dX9_goMinute_135 rfl (lv_at hl 2 rfl) ?_
    refine lv_iload_n hx hb dX9_goMinute_136 rfl (lv_at hl 1 rfl) ?_
    obtain ⟨y4, h5, hM⟩ := o_bd hM
    refine af_i (ws2 := (w_Mo_goMinute cI cJ cS q_t q_t_kindOf q_t_comes q_t_wants q_t_runs q_t_readKind q_t_readComes q_t_readWants q_t_queueNow q_t_servedAt q_t_comesWas q_t_readingOf q_t_readingAt q_t_sheetSize q_t_sheetLane q_t_sheet q_t_hands t_fault t_persons t_law t_bellSet t_readAt t_readLaw t_readMany t_queueMany t_servedNow t_doneAt t_readings t_whichMany t_whichOne t_whichTwo t_traceNow t_kindOf t_comes t_wants t_runs t_queueNow t_servedAt)) (va_runS (As := [.long p_set, .int p_minute]) (rest := []) ⟨hx, hb, hml, hown, hts⟩ (c_Mo_isBell l D cI cJ cS p_set p_minute y4 h5 _) (va_cwS 2 hts gX9_goMinute_X9_isBell rfl rfl rfl (by decide +kernel) ⟨(Nat.le_of_ble_eq_true rfl), (Nat.le_of_ble_eq_true rfl)⟩) (pre_S hK hP hD [] rfl rfl) rfl rfl hl.1 rfl (lv_room (Nat.le_of_ble_eq_true rfl)) dX9_goMinute_137 ⟨Nat.zero_le _, Nat.zero_le _⟩) hP hD hS hA [] [0, 1, 2, 3, 4, 5, 6] [0, 1, 2, 3, 4, 5, 6] rfl rfl rfl (by decide) rfl rfl (fun H locs hP hD hS => ?_)
    refine lv_if_eq (tgt := 147) hx hb dX9_goMinute_140 (by decide) (fun c6 => ?_) (fun c6 => ?_)
    · have hM := (o_if hM).1 c6
      exact J147 t_queueMany t_servedNow t_doneAt t_queueNow t_servedAt hM _ _ hP hD hS _ (lv_sub hl [0, 1] rfl)
    · have hM := (o_if hM).2 c6
      refine lv_aload_n hx hb dX9_goMinute_143 rfl (lv_at hl 0 rfl) ?_
      obtain ⟨y16, h17, hM⟩ := o_bd hM
      refine af_v (ws2 := (w_Mo_goMinute cI cJ cS q_t q_t_kindOf q_t_comes q_t_wants q_t_runs q_t_readKind q_t_readComes q_t_readWants q_t_queueNow q_t_servedAt q_t_comesWas q_t_readingOf q_t_readingAt q_t_sheetSize q_t_sheetLane q_t_sheet q_t_hands t_fault t_persons t_law t_bellSet t_readAt t_readLaw t_readMany y16.1 t_servedNow t_doneAt t_readings t_whichMany t_whichOne t_whichTwo t_traceNow t_kindOf t_comes t_wants t_runs y16.2 t_servedAt)) (va_runV (As := []) (rest := []) ⟨hx, hb, hml, hown, hts⟩ (c_Mo_turnAll l D cI cJ cS q_t q_t_kindOf q_t_comes q_t_wants q_t_runs q_t_readKind q_t_readComes q_t_readWants q_t_queueNow q_t_servedAt q_t_comesWas q_t_readingOf q_t_readingAt q_t_sheetSize q_t_sheetLane q_t_sheet q_t_hands t_fault t_persons t_law t_bellSet t_readAt t_readLaw t_readMany t_queueMany t_servedNow t_doneAt t_readings t_whichMany t_whichOne t_whichTwo t_traceNow t_queueNow y16 h17 _) (cwV 0 hts gX9_goMinute_X9_turnAll rfl rfl rfl (by decide +kernel) ⟨(Nat.le_of_ble_eq_true rfl), (Nat.le_of_ble_eq_true rfl)⟩) (pre_V hK hP hD [0, 5] rfl rfl rfl rfl) rfl rfl hl.1 rfl (lv_room (Nat.le_of_ble_eq_true rfl)) dX9_goMinute_144 ⟨Nat.zero_le _, Nat.zero_le _⟩) hP hD hS hA [0, 5] [1, 2, 3, 4, 6] [5, 0, 1, 2, 3, 6, 4] rfl rfl rfl (by decide) rfl rfl (fun H locs hP hD hS => ?_)
      exact J147 y16.1 t_servedNow t_doneAt y16.2 t_servedAt hM _ _ hP hD hS _ (lv_sub hl [0, 1] rfl)
  have L87 : ∀ n : Nat, (∀ (x5 : Int32) (t_queueMany : Int32) (t_servedNow : Int32) (t_doneAt : Int32) (t_queueNow : Nat → Int32) (t_servedAt : Nat → Int32), itr (Mo_goMinute_s87 p_minute p_who p_set t_persons t_law t_kindOf t_comes t_wants t_runs) n (x5, t_queueMany, t_servedNow, t_doneAt, t_queueNow, t_servedAt) = some o → ∀ (H : Heap) (locs : List Loc), va_P D vwCl (w_Mo_goMinute cI cJ cS q_t q_t_kindOf q_t_comes q_t_wants q_t_runs q_t_readKind q_t_readComes q_t_readWants q_t_queueNow q_t_servedAt q_t_comesWas q_t_readingOf q_t_readingAt q_t_sheetSize q_t_sheetLane q_t_sheet q_t_hands t_fault t_persons t_law t_bellSet t_readAt t_readLaw t_readMany t_queueMany t_servedNow t_doneAt t_readings t_whichMany t_whichOne t_whichTwo t_traceNow t_kindOf t_comes t_wants t_runs t_queueNow t_servedAt) H → va_D A (w_Mo_goMinute cI cJ cS q_t q_t_kindOf q_t_comes q_t_wants q_t_runs q_t_readKind q_t_readComes q_t_readWants q_t_queueNow q_t_servedAt q_t_comesWas q_t_readingOf q_t_readingAt q_t_sheetSize q_t_sheetLane q_t_sheet q_t_hands t_fault t_persons t_law t_bellSet t_readAt t_readLaw t_readMany t_queueMany t_servedNow t_doneAt t_readings t_whichMany t_whichOne t_whichTwo t_traceNow t_kindOf t_comes t_wants t_runs t_queueNow t_servedAt) → va_S A s.heap H locs → ∀ ls : Array Slot, lv_has ls 7 [(0, .ref q_t), (1, .int p_minute), (2, .int p_who), (3, .long p_set), (5, .int x5)] → W p l e (headSpec wsX9_goMinute rm_Mo_goMinute).room s m args below meth c H locs 0 0 (MQ below (CQv D (w_Mo_goMinute cI cJ cS q_t q_t_kindOf q_t_comes q_t_wants q_t_runs q_t_readKind q_t_readComes q_t_readWants q_t_queueNow q_t_servedAt q_t_comesWas q_t_readingOf q_t_readingAt q_t_sheetSize q_t_sheetLane q_t_sheet q_t_hands t_fault t_persons t_law t_bellSet t_readAt t_readLaw t_readMany o.1 o.2.1 o.2.2.1 t_readings t_whichMany t_whichOne t_whichTwo t_traceNow t_kindOf t_comes t_wants t_runs o.2.2.2.1 o.2.2.2.2) A) args s 0 0 A) (F0 m 87 ls [])) := by
    intro n
    induction n with
    | zero => exact fun _ _ _ _ _ _ hM => (itr_0 hM).elim
    | succ n ih =>
      intro x5 t_queueMany t_servedNow t_doneAt t_queueNow t_servedAt hM H locs hP hD hS ls hl
      have hM : (Mo_goMinute_b87 p_minute p_who p_set t_persons t_law t_kindOf t_comes t_wants t_runs x5 t_queueMany t_servedNow t_doneAt t_queueNow t_servedAt).bind (sg (itr (Mo_goMinute_s87 p_minute p_who p_set t_persons t_law t_kindOf t_comes t_wants t_runs) n)) = some o := hM
      unfold Mo_goMinute_b87 at hM
      refine lv_iload hx hb dX9_goMinute_87 (lv_at hl 4 rfl) ?_
      refine lv_aload_n hx hb dX9_goMinute_89 rfl (lv_at hl 0 rfl) ?_
      refine va_get (ci := 8) (v := .int t_persons) (C := RX9) (T := TX9) (N := 31) hx hb hts iX9 hown hK.1 hP 0 rfl rfl 1 (Nat.le_of_ble_eq_true rfl) k1 (fun _ h9 => h9) rfl dX9_goMinute_90 ?_
      refine lv_icmp_ge (tgt := 135) hx hb dX9_goMinute_93 (by decide) (fun c3 => ?_) (fun c3 => ?_)
      · have hM := (s_if hM).1 c3
        exact J135 t_queueMany t_servedNow t_doneAt t_queueNow t_servedAt (s_ex hM) _ _ hP hD hS _ (lv_sub hl [0, 1, 3] rfl)
      · have hM := (s_if hM).2 c3
        refine lv_iload_n hx hb dX9_goMinute_96 rfl (lv_at hl 2 rfl) ?_
        refine lv_iload hx hb dX9_goMinute_97 (lv_at hl 4 rfl) ?_
        refine lv_ishr hx hb dX9_goMinute_99 ?_
        refine lv_iconst (v := 1) hx hb dX9_goMinute_100 (by decide) ?_
        refine lv_iand hx hb dX9_goMinute_101 ?_
        refine lv_iconst (v := 1) hx hb dX9_goMinute_102 (by decide) ?_
        refine lv_icmp_ne (tgt := 129) hx hb dX9_goMinute_103 (by decide) (fun c18 => ?_) (fun c18 => ?_)
        · have hM := (s_if hM).2 c18
          obtain ⟨y19, ey19⟩ : ∃ y : Int32, y = x5 + 1 := ⟨_, rfl⟩
          have hM := s_lt hM y19 ey19
          refine lv_iinc (v := y19) (lv' := [(5, .int y19), (0, .ref q_t), (1, .int p_minute), (2, .int p_who), (3, .long p_set)]) hx hb dX9_goMinute_129 hl (k := 4) rfl (by rw [ey19]; rfl) (Nat.le_of_ble_eq_true rfl) rfl (fun ls hl => ?_)
          refine lv_goto (tgt := 87) hx hb dX9_goMinute_132 (by decide) ?_
          exact ih y19 t_queueMany t_servedNow t_doneAt t_queueNow t_servedAt (s_jp hM) _ _ hP hD hS _ (lv_sub hl [1, 2, 3, 4, 0] rfl)
        · have hM := (s_if hM).1 c18
          refine lv_aload_n hx hb dX9_goMinute_106 rfl (lv_at hl 0 rfl) ?_
          refine va_get (ci := 8) (v := .ref q_t_comes) (C := RX9) (T := TX9) (N := 31) hx hb hts iX9 hown hK.1 hP 0 rfl rfl 4 (Nat.le_of_ble_eq_true rfl) k7 (fun _ h9 => h9) rfl dX9_goMinute_107 ?_
          refine lv_iload hx hb dX9_goMinute_110 (lv_at hl 4 rfl) ?_
          obtain ⟨h20, hM⟩ := s_ck hM
          refine va_iald hx hb hK.1 hP 2 0 rfl rfl h20 dX9_goMinute_112 ?_
          refine lv_iload_n hx hb dX9_goMinute_113 rfl (lv_at hl 1 rfl) ?_
          refine lv_icmp_ne (tgt := 129) hx hb dX9_goMinute_114 (by decide) (fun c21 => ?_) (fun c21 => ?_)
          · have hM := (s_if hM).2 c21
            obtain ⟨y22, ey22⟩ : ∃ y : Int32, y = x5 + 1 := ⟨_, rfl⟩
            have hM := s_lt hM y22 ey22
            refine lv_iinc (v := y22) (lv' := [(5, .int y22), (0, .ref q_t), (1, .int p_minute), (2, .int p_who), (3, .long p_set)]) hx hb dX9_goMinute_129 hl (k := 4) rfl (by rw [ey22]; rfl) (Nat.le_of_ble_eq_true rfl) rfl (fun ls hl => ?_)
            refine lv_goto (tgt := 87) hx hb dX9_goMinute_132 (by decide) ?_
            exact ih y22 t_queueMany t_servedNow t_doneAt t_queueNow t_servedAt (s_jp hM) _ _ hP hD hS _ (lv_sub hl [1, 2, 3, 4, 0] rfl)
          · have hM := (s_if hM).1 c21
            refine lv_aload_n hx hb dX9_goMinute_117 rfl (lv_at hl 0 rfl) ?_
            refine lv_aload_n hx hb dX9_goMinute_118 rfl (lv_at hl 0 rfl) ?_
            refine lv_iload hx hb dX9_goMinute_119 (lv_at hl 4 rfl) ?_
            obtain ⟨y23, h24, hM⟩ := s_bd hM
            refine af_i (ws2 := (w_Mo_goMinute cI cJ cS q_t q_t_kindOf q_t_comes q_t_wants q_t_runs q_t_readKind q_t_readComes q_t_readWants q_t_queueNow q_t_servedAt q_t_comesWas q_t_readingOf q_t_readingAt q_t_sheetSize q_t_sheetLane q_t_sheet q_t_hands t_fault t_persons t_law t_bellSet t_readAt t_readLaw t_readMany t_queueMany t_servedNow t_doneAt t_readings t_whichMany t_whichOne t_whichTwo t_traceNow t_kindOf t_comes t_wants t_runs t_queueNow t_servedAt)) (va_runV (As := [.int x5]) (rest := [.ref q_t]) ⟨hx, hb, hml, hown, hts⟩ (c_Mo_placeFor l D cI cJ cS q_t q_t_kindOf q_t_comes q_t_wants q_t_runs q_t_readKind q_t_readComes q_t_readWants q_t_queueNow q_t_servedAt q_t_comesWas q_t_readingOf q_t_readingAt q_t_sheetSize q_t_sheetLane q_t_sheet q_t_hands t_fault t_persons t_law t_bellSet t_readAt t_readLaw t_readMany t_queueMany t_servedNow t_doneAt t_readings t_whichMany t_whichOne t_whichTwo t_traceNow t_kindOf t_queueNow x5 y23 h24 _) (cwV 1 hts gX9_goMinute_X9_placeFor rfl rfl rfl (by decide +kernel) ⟨(Nat.le_of_ble_eq_true rfl), (Nat.le_of_ble_eq_true rfl)⟩) (pre_V hK hP hD [0, 1, 5] rfl rfl rfl rfl) rfl rfl hl.1 rfl (lv_room (Nat.le_of_ble_eq_true rfl)) dX9_goMinute_121 ⟨Nat.zero_le _, Nat.zero_le _⟩) hP hD hS hA [0, 1, 5] [2, 3, 4, 6] [4, 5, 0, 1, 2, 6, 3] rfl rfl rfl (by decide) rfl rfl (fun H locs hP hD hS => ?_)
            refine lv_iload hx hb dX9_goMinute_124 (lv_at hl 4 rfl) ?_
            obtain ⟨y25, h26, hM⟩ := s_bd hM
            refine af_v (ws2 := (w_Mo_goMinute cI cJ cS q_t q_t_kindOf q_t_comes q_t_wants q_t_runs q_t_readKind q_t_readComes q_t_readWants q_t_queueNow q_t_servedAt q_t_comesWas q_t_readingOf q_t_readingAt q_t_sheetSize q_t_sheetLane q_t_sheet q_t_hands t_fault t_persons t_law t_bellSet t_readAt t_readLaw t_readMany y25.1 t_servedNow t_doneAt t_readings t_whichMany t_whichOne t_whichTwo t_traceNow t_kindOf t_comes t_wants t_runs y25.2 t_servedAt)) (va_runV (As := [.int y23, .int x5]) (rest := []) ⟨hx, hb, hml, hown, hts⟩ (c_Mo_standAt l D cI cJ cS q_t q_t_kindOf q_t_comes q_t_wants q_t_runs q_t_readKind q_t_readComes q_t_readWants q_t_queueNow q_t_servedAt q_t_comesWas q_t_readingOf q_t_readingAt q_t_sheetSize q_t_sheetLane q_t_sheet q_t_hands t_fault t_persons t_law t_bellSet t_readAt t_readLaw t_readMany t_queueMany t_servedNow t_doneAt t_readings t_whichMany t_whichOne t_whichTwo t_traceNow t_queueNow y23 x5 y25 h26 _) (cwV 2 hts gX9_goMinute_X9_standAt rfl rfl rfl (by decide +kernel) ⟨(Nat.le_of_ble_eq_true rfl), (Nat.le_of_ble_eq_true rfl)⟩) (pre_V hK hP hD [0, 5] rfl rfl rfl rfl) rfl rfl hl.1 rfl (lv_room (Nat.le_of_ble_eq_true rfl)) dX9_goMinute_126 ⟨Nat.zero_le _, Nat.zero_le _⟩) hP hD hS hA [0, 5] [1, 2, 3, 4, 6] [5, 0, 1, 2, 3, 6, 4] rfl rfl rfl (by decide) rfl rfl (fun H locs hP hD hS => ?_)
            obtain ⟨y27, ey27⟩ : ∃ y : Int32, y = x5 + 1 := ⟨_, rfl⟩
            have hM := s_lt hM y27 ey27
            refine lv_iinc (v := y27) (lv' := [(5, .int y27), (0, .ref q_t), (1, .int p_minute), (2, .int p_who), (3, .long p_set)]) hx hb dX9_goMinute_129 hl (k := 4) rfl (by rw [ey27]; rfl) (Nat.le_of_ble_eq_true rfl) rfl (fun ls hl => ?_)
            refine lv_goto (tgt := 87) hx hb dX9_goMinute_132 (by decide) ?_
            exact ih y27 y25.1 t_servedNow t_doneAt y25.2 t_servedAt (s_jp hM) _ _ hP hD hS _ (lv_sub hl [1, 2, 3, 4, 0] rfl)
  have J87 : ∀ (x5 : Int32) (t_queueMany : Int32) (t_servedNow : Int32) (t_doneAt : Int32) (t_queueNow : Nat → Int32) (t_servedAt : Nat → Int32), Mo_goMinute_l87 p_minute p_who p_set t_persons t_law t_kindOf t_comes t_wants t_runs x5 t_queueMany t_servedNow t_doneAt t_queueNow t_servedAt = some o → ∀ (H : Heap) (locs : List Loc), va_P D vwCl (w_Mo_goMinute cI cJ cS q_t q_t_kindOf q_t_comes q_t_wants q_t_runs q_t_readKind q_t_readComes q_t_readWants q_t_queueNow q_t_servedAt q_t_comesWas q_t_readingOf q_t_readingAt q_t_sheetSize q_t_sheetLane q_t_sheet q_t_hands t_fault t_persons t_law t_bellSet t_readAt t_readLaw t_readMany t_queueMany t_servedNow t_doneAt t_readings t_whichMany t_whichOne t_whichTwo t_traceNow t_kindOf t_comes t_wants t_runs t_queueNow t_servedAt) H → va_D A (w_Mo_goMinute cI cJ cS q_t q_t_kindOf q_t_comes q_t_wants q_t_runs q_t_readKind q_t_readComes q_t_readWants q_t_queueNow q_t_servedAt q_t_comesWas q_t_readingOf q_t_readingAt q_t_sheetSize q_t_sheetLane q_t_sheet q_t_hands t_fault t_persons t_law t_bellSet t_readAt t_readLaw t_readMany t_queueMany t_servedNow t_doneAt t_readings t_whichMany t_whichOne t_whichTwo t_traceNow t_kindOf t_comes t_wants t_runs t_queueNow t_servedAt) → va_S A s.heap H locs → ∀ ls : Array Slot, lv_has ls 7 [(0, .ref q_t), (1, .int p_minute), (2, .int p_who), (3, .long p_set), (5, .int x5)] → W p l e (headSpec wsX9_goMinute rm_Mo_goMinute).room s m args below meth c H locs 0 0 (MQ below (CQv D (w_Mo_goMinute cI cJ cS q_t q_t_kindOf q_t_comes q_t_wants q_t_runs q_t_readKind q_t_readComes q_t_readWants q_t_queueNow q_t_servedAt q_t_comesWas q_t_readingOf q_t_readingAt q_t_sheetSize q_t_sheetLane q_t_sheet q_t_hands t_fault t_persons t_law t_bellSet t_readAt t_readLaw t_readMany o.1 o.2.1 o.2.2.1 t_readings t_whichMany t_whichOne t_whichTwo t_traceNow t_kindOf t_comes t_wants t_runs o.2.2.2.1 o.2.2.2.2) A) args s 0 0 A) (F0 m 87 ls []) := by
    intro x5 t_queueMany t_servedNow t_doneAt t_queueNow t_servedAt hM
    unfold Mo_goMinute_l87 at hM
    obtain ⟨n0, hM⟩ := fin_some hM
    exact (L87 n0) x5 t_queueMany t_servedNow t_doneAt t_queueNow t_servedAt hM
  have L24 : ∀ n : Nat, (∀ (x5 : Int32) (t_queueMany : Int32) (t_servedNow : Int32) (t_doneAt : Int32) (t_queueNow : Nat → Int32) (t_servedAt : Nat → Int32), itr (Mo_goMinute_s24 p_minute p_who p_set t_persons t_law t_kindOf t_comes t_wants t_runs) n (x5, t_queueMany, t_servedNow, t_doneAt, t_queueNow, t_servedAt) = some o → ∀ (H : Heap) (locs : List Loc), va_P D vwCl (w_Mo_goMinute cI cJ cS q_t q_t_kindOf q_t_comes q_t_wants q_t_runs q_t_readKind q_t_readComes q_t_readWants q_t_queueNow q_t_servedAt q_t_comesWas q_t_readingOf q_t_readingAt q_t_sheetSize q_t_sheetLane q_t_sheet q_t_hands t_fault t_persons t_law t_bellSet t_readAt t_readLaw t_readMany t_queueMany t_servedNow t_doneAt t_readings t_whichMany t_whichOne t_whichTwo t_traceNow t_kindOf t_comes t_wants t_runs t_queueNow t_servedAt) H → va_D A (w_Mo_goMinute cI cJ cS q_t q_t_kindOf q_t_comes q_t_wants q_t_runs q_t_readKind q_t_readComes q_t_readWants q_t_queueNow q_t_servedAt q_t_comesWas q_t_readingOf q_t_readingAt q_t_sheetSize q_t_sheetLane q_t_sheet q_t_hands t_fault t_persons t_law t_bellSet t_readAt t_readLaw t_readMany t_queueMany t_servedNow t_doneAt t_readings t_whichMany t_whichOne t_whichTwo t_traceNow t_kindOf t_comes t_wants t_runs t_queueNow t_servedAt) → va_S A s.heap H locs → ∀ ls : Array Slot, lv_has ls 7 [(0, .ref q_t), (1, .int p_minute), (2, .int p_who), (3, .long p_set), (5, .int x5)] → W p l e (headSpec wsX9_goMinute rm_Mo_goMinute).room s m args below meth c H locs 0 0 (MQ below (CQv D (w_Mo_goMinute cI cJ cS q_t q_t_kindOf q_t_comes q_t_wants q_t_runs q_t_readKind q_t_readComes q_t_readWants q_t_queueNow q_t_servedAt q_t_comesWas q_t_readingOf q_t_readingAt q_t_sheetSize q_t_sheetLane q_t_sheet q_t_hands t_fault t_persons t_law t_bellSet t_readAt t_readLaw t_readMany o.1 o.2.1 o.2.2.1 t_readings t_whichMany t_whichOne t_whichTwo t_traceNow t_kindOf t_comes t_wants t_runs o.2.2.2.1 o.2.2.2.2) A) args s 0 0 A) (F0 m 24 ls [])) := by
    intro n
    induction n with
    | zero => exact fun _ _ _ _ _ _ hM => (itr_0 hM).elim
    | succ n ih =>
      have J55 : ∀ (x5 : Int32) (s0 : Int32) (t_queueMany : Int32) (t_servedNow : Int32) (t_doneAt : Int32) (t_queueNow : Nat → Int32) (t_servedAt : Nat → Int32), (Mo_goMinute_j55 p_minute p_who p_set t_persons t_law t_kindOf t_comes t_wants t_runs x5 s0 t_queueMany t_servedNow t_doneAt t_queueNow t_servedAt).bind (sg (itr (Mo_goMinute_s24 p_minute p_who p_set t_persons t_law t_kindOf t_comes t_wants t_runs) n)) = some o → ∀ (H : Heap) (locs : List Loc), va_P D vwCl (w_Mo_goMinute cI cJ cS q_t q_t_kindOf q_t_comes q_t_wants q_t_runs q_t_readKind q_t_readComes q_t_readWants q_t_queueNow q_t_servedAt q_t_comesWas q_t_readingOf q_t_readingAt q_t_sheetSize q_t_sheetLane q_t_sheet q_t_hands t_fault t_persons t_law t_bellSet t_readAt t_readLaw t_readMany t_queueMany t_servedNow t_doneAt t_readings t_whichMany t_whichOne t_whichTwo t_traceNow t_kindOf t_comes t_wants t_runs t_queueNow t_servedAt) H → va_D A (w_Mo_goMinute cI cJ cS q_t q_t_kindOf q_t_comes q_t_wants q_t_runs q_t_readKind q_t_readComes q_t_readWants q_t_queueNow q_t_servedAt q_t_comesWas q_t_readingOf q_t_readingAt q_t_sheetSize q_t_sheetLane q_t_sheet q_t_hands t_fault t_persons t_law t_bellSet t_readAt t_readLaw t_readMany t_queueMany t_servedNow t_doneAt t_readings t_whichMany t_whichOne t_whichTwo t_traceNow t_kindOf t_comes t_wants t_runs t_queueNow t_servedAt) → va_S A s.heap H locs → ∀ ls : Array Slot, lv_has ls 7 [(0, .ref q_t), (1, .int p_minute), (2, .int p_who), (3, .long p_set), (5, .int x5)] → W p l e (headSpec wsX9_goMinute rm_Mo_goMinute).room s m args below meth c H locs 0 0 (MQ below (CQv D (w_Mo_goMinute cI cJ cS q_t q_t_kindOf q_t_comes q_t_wants q_t_runs q_t_readKind q_t_readComes q_t_readWants q_t_queueNow q_t_servedAt q_t_comesWas q_t_readingOf q_t_readingAt q_t_sheetSize q_t_sheetLane q_t_sheet q_t_hands t_fault t_persons t_law t_bellSet t_readAt t_readLaw t_readMany o.1 o.2.1 o.2.2.1 t_readings t_whichMany t_whichOne t_whichTwo t_traceNow t_kindOf t_comes t_wants t_runs o.2.2.2.1 o.2.2.2.2) A) args s 0 0 A) (F0 m 55 ls [.int s0]) := by
        intro x5 s0 t_queueMany t_servedNow t_doneAt t_queueNow t_servedAt hM H locs hP hD hS ls hl
        unfold Mo_goMinute_j55 at hM
        refine lv_istore (lv' := [(6, .int s0), (0, .ref q_t), (1, .int p_minute), (2, .int p_who), (3, .long p_set), (5, .int x5)]) hx hb dX9_goMinute_55 hl (Nat.le_of_ble_eq_true rfl) rfl (fun ls hl => ?_)
        refine lv_iload hx hb dX9_goMinute_57 (lv_at hl 0 rfl) ?_
        refine lv_if_lt (tgt := 78) hx hb dX9_goMinute_59 (by decide) (fun c30 => ?_) (fun c30 => ?_)
        · have hM := (s_if hM).1 c30
          obtain ⟨y31, ey31⟩ : ∃ y : Int32, y = x5 + 1 := ⟨_, rfl⟩
          have hM := s_lt hM y31 ey31
          refine lv_iinc (v := y31) (lv' := [(5, .int y31), (6, .int s0), (0, .ref q_t), (1, .int p_minute), (2, .int p_who), (3, .long p_set)]) hx hb dX9_goMinute_78 hl (k := 5) rfl (by rw [ey31]; rfl) (Nat.le_of_ble_eq_true rfl) rfl (fun ls hl => ?_)
          refine lv_goto (tgt := 24) hx hb dX9_goMinute_81 (by decide) ?_
          exact ih y31 t_queueMany t_servedNow t_doneAt t_queueNow t_servedAt (s_jp hM) _ _ hP hD hS _ (lv_sub hl [2, 3, 4, 5, 0] rfl)
        · have hM := (s_if hM).2 c30
          refine lv_aload_n hx hb dX9_goMinute_62 rfl (lv_at hl 1 rfl) ?_
          refine lv_iload hx hb dX9_goMinute_63 (lv_at hl 0 rfl) ?_
          obtain ⟨y32, h33, hM⟩ := s_bd hM
          refine af_v (ws2 := (w_Mo_goMinute cI cJ cS q_t q_t_kindOf q_t_comes q_t_wants q_t_runs q_t_readKind q_t_readComes q_t_readWants q_t_queueNow q_t_servedAt q_t_comesWas q_t_readingOf q_t_readingAt q_t_sheetSize q_t_sheetLane q_t_sheet q_t_hands t_fault t_persons t_law t_bellSet t_readAt t_readLaw t_readMany y32.1 t_servedNow t_doneAt t_readings t_whichMany t_whichOne t_whichTwo t_traceNow t_kindOf t_comes t_wants t_runs y32.2 t_servedAt)) (va_runV (As := [.int s0]) (rest := []) ⟨hx, hb, hml, hown, hts⟩ (c_Mo_takeOut l D cI cJ cS q_t q_t_kindOf q_t_comes q_t_wants q_t_runs q_t_readKind q_t_readComes q_t_readWants q_t_queueNow q_t_servedAt q_t_comesWas q_t_readingOf q_t_readingAt q_t_sheetSize q_t_sheetLane q_t_sheet q_t_hands t_fault t_persons t_law t_bellSet t_readAt t_readLaw t_readMany t_queueMany t_servedNow t_doneAt t_readings t_whichMany t_whichOne t_whichTwo t_traceNow t_queueNow s0 y32 h33 _) (cwV 1 hts gX9_goMinute_X9_takeOut rfl rfl rfl (by decide +kernel) ⟨(Nat.le_of_ble_eq_true rfl), (Nat.le_of_ble_eq_true rfl)⟩) (pre_V hK hP hD [0, 5] rfl rfl rfl rfl) rfl rfl hl.1 rfl (lv_room (Nat.le_of_ble_eq_true rfl)) dX9_goMinute_65 ⟨Nat.zero_le _, Nat.zero_le _⟩) hP hD hS hA [0, 5] [1, 2, 3, 4, 6] [5, 0, 1, 2, 3, 6, 4] rfl rfl rfl (by decide) rfl rfl (fun H locs hP hD hS => ?_)
          refine lv_aload_n hx hb dX9_goMinute_68 rfl (lv_at hl 1 rfl) ?_
          refine lv_aload_n hx hb dX9_goMinute_69 rfl (lv_at hl 1 rfl) ?_
          refine va_get (ci := 8) (v := .int y32.1) (C := RX9) (T := TX9) (N := 31) hx hb hts iX9 hown hK.1 hP 0 rfl rfl 15 (Nat.le_of_ble_eq_true rfl) k2 (fun _ h9 => h9) rfl dX9_goMinute_70 ?_
          refine lv_iload hx hb dX9_goMinute_73 (lv_at hl 5 rfl) ?_
          obtain ⟨y34, h35, hM⟩ := s_bd hM
          refine af_v (ws2 := (w_Mo_goMinute cI cJ cS q_t q_t_kindOf q_t_comes q_t_wants q_t_runs q_t_readKind q_t_readComes q_t_readWants q_t_queueNow q_t_servedAt q_t_comesWas q_t_readingOf q_t_readingAt q_t_sheetSize q_t_sheetLane q_t_sheet q_t_hands t_fault t_persons t_law t_bellSet t_readAt t_readLaw t_readMany y34.1 t_servedNow t_doneAt t_readings t_whichMany t_whichOne t_whichTwo t_traceNow t_kindOf t_comes t_wants t_runs y34.2 t_servedAt)) (va_runV (As := [.int y32.1, .int x5]) (rest := []) ⟨hx, hb, hml, hown, hts⟩ (c_Mo_standAt l D cI cJ cS q_t q_t_kindOf q_t_comes q_t_wants q_t_runs q_t_readKind q_t_readComes q_t_readWants q_t_queueNow q_t_servedAt q_t_comesWas q_t_readingOf q_t_readingAt q_t_sheetSize q_t_sheetLane q_t_sheet q_t_hands t_fault t_persons t_law t_bellSet t_readAt t_readLaw t_readMany y32.1 t_servedNow t_doneAt t_readings t_whichMany t_whichOne t_whichTwo t_traceNow y32.2 y32.1 x5 y34 h35 _) (cwV 2 hts gX9_goMinute_X9_standAt rfl rfl rfl (by decide +kernel) ⟨(Nat.le_of_ble_eq_true rfl), (Nat.le_of_ble_eq_true rfl)⟩) (pre_V hK hP hD [0, 5] rfl rfl rfl rfl) rfl rfl hl.1 rfl (lv_room (Nat.le_of_ble_eq_true rfl)) dX9_goMinute_75 ⟨Nat.zero_le _, Nat.zero_le _⟩) hP hD hS hA [0, 5] [1, 2, 3, 4, 6] [5, 0, 1, 2, 3, 6, 4] rfl rfl rfl (by decide) rfl rfl (fun H locs hP hD hS => ?_)
          obtain ⟨y36, ey36⟩ : ∃ y : Int32, y = x5 + 1 := ⟨_, rfl⟩
          have hM := s_lt hM y36 ey36
          refine lv_iinc (v := y36) (lv' := [(5, .int y36), (6, .int s0), (0, .ref q_t), (1, .int p_minute), (2, .int p_who), (3, .long p_set)]) hx hb dX9_goMinute_78 hl (k := 5) rfl (by rw [ey36]; rfl) (Nat.le_of_ble_eq_true rfl) rfl (fun ls hl => ?_)
          refine lv_goto (tgt := 24) hx hb dX9_goMinute_81 (by decide) ?_
          exact ih y36 y34.1 t_servedNow t_doneAt y34.2 t_servedAt (s_jp hM) _ _ hP hD hS _ (lv_sub hl [2, 3, 4, 5, 0] rfl)
      intro x5 t_queueMany t_servedNow t_doneAt t_queueNow t_servedAt hM H locs hP hD hS ls hl
      have hM : (Mo_goMinute_b24 p_minute p_who p_set t_persons t_law t_kindOf t_comes t_wants t_runs x5 t_queueMany t_servedNow t_doneAt t_queueNow t_servedAt).bind (sg (itr (Mo_goMinute_s24 p_minute p_who p_set t_persons t_law t_kindOf t_comes t_wants t_runs) n)) = some o := hM
      unfold Mo_goMinute_b24 at hM
      refine lv_iload hx hb dX9_goMinute_24 (lv_at hl 4 rfl) ?_
      refine lv_aload_n hx hb dX9_goMinute_26 rfl (lv_at hl 0 rfl) ?_
      refine va_get (ci := 8) (v := .int t_persons) (C := RX9) (T := TX9) (N := 31) hx hb hts iX9 hown hK.1 hP 0 rfl rfl 1 (Nat.le_of_ble_eq_true rfl) k1 (fun _ h9 => h9) rfl dX9_goMinute_27 ?_
      refine lv_icmp_ge (tgt := 84) hx hb dX9_goMinute_30 (by decide) (fun c2 => ?_) (fun c2 => ?_)
      · have hM := (s_if hM).1 c2
        refine lv_iconst (v := 0) hx hb dX9_goMinute_84 (by decide) ?_
        refine lv_istore (lv' := [(5, .int 0), (0, .ref q_t), (1, .int p_minute), (2, .int p_who), (3, .long p_set)]) hx hb dX9_goMinute_85 hl (Nat.le_of_ble_eq_true rfl) rfl (fun ls hl => ?_)
        exact J87 0 t_queueMany t_servedNow t_doneAt t_queueNow t_servedAt (s_ex hM) _ _ hP hD hS _ (lv_sub hl [1, 2, 3, 4, 0] rfl)
      · have hM := (s_if hM).2 c2
        refine lv_aload_n hx hb dX9_goMinute_33 rfl (lv_at hl 0 rfl) ?_
        refine va_get (ci := 8) (v := .ref q_t_runs) (C := RX9) (T := TX9) (N := 31) hx hb hts iX9 hown hK.1 hP 0 rfl rfl 6 (Nat.le_of_ble_eq_true rfl) k8 (fun _ h9 => h9) rfl dX9_goMinute_34 ?_
        refine lv_iload hx hb dX9_goMinute_37 (lv_at hl 4 rfl) ?_
        obtain ⟨h28, hM⟩ := s_ck hM
        refine va_iald hx hb hK.1 hP 4 0 rfl rfl h28 dX9_goMinute_39 ?_
        refine lv_iload_n hx hb dX9_goMinute_40 rfl (lv_at hl 1 rfl) ?_
        refine lv_icmp_ne (tgt := 53) hx hb dX9_goMinute_41 (by decide) (fun c29 => ?_) (fun c29 => ?_)
        · have hM := (s_if hM).2 c29
          refine lv_bipush (v := (-9)) hx hb dX9_goMinute_53 (by decide) ?_
          exact J55 x5 (-9) t_queueMany t_servedNow t_doneAt t_queueNow t_servedAt hM _ _ hP hD hS _ (lv_sub hl [0, 1, 2, 3, 4] rfl)
        · have hM := (s_if hM).1 c29
          refine lv_aload_n hx hb dX9_goMinute_44 rfl (lv_at hl 0 rfl) ?_
          refine lv_iload hx hb dX9_goMinute_45 (lv_at hl 4 rfl) ?_
          obtain ⟨y37, h38, hM⟩ := s_bd hM
          refine af_i (ws2 := (w_Mo_goMinute cI cJ cS q_t q_t_kindOf q_t_comes q_t_wants q_t_runs q_t_readKind q_t_readComes q_t_readWants q_t_queueNow q_t_servedAt q_t_comesWas q_t_readingOf q_t_readingAt q_t_sheetSize q_t_sheetLane q_t_sheet q_t_hands t_fault t_persons t_law t_bellSet t_readAt t_readLaw t_readMany t_queueMany t_servedNow t_doneAt t_readings t_whichMany t_whichOne t_whichTwo t_traceNow t_kindOf t_comes t_wants t_runs t_queueNow t_servedAt)) (va_runV (As := [.int x5]) (rest := []) ⟨hx, hb, hml, hown, hts⟩ (c_Mo_placeOf l D cI cJ cS q_t q_t_kindOf q_t_comes q_t_wants q_t_runs q_t_readKind q_t_readComes q_t_readWants q_t_queueNow q_t_servedAt q_t_comesWas q_t_readingOf q_t_readingAt q_t_sheetSize q_t_sheetLane q_t_sheet q_t_hands t_fault t_persons t_law t_bellSet t_readAt t_readLaw t_readMany t_queueMany t_servedNow t_doneAt t_readings t_whichMany t_whichOne t_whichTwo t_traceNow t_queueNow x5 y37 h38 _) (cwV 1 hts gX9_goMinute_X9_placeOf rfl rfl rfl (by decide +kernel) ⟨(Nat.le_of_ble_eq_true rfl), (Nat.le_of_ble_eq_true rfl)⟩) (pre_V hK hP hD [0, 5] rfl rfl rfl rfl) rfl rfl hl.1 rfl (lv_room (Nat.le_of_ble_eq_true rfl)) dX9_goMinute_47 ⟨Nat.zero_le _, Nat.zero_le _⟩) hP hD hS hA [0, 5] [1, 2, 3, 4, 6] [5, 0, 1, 2, 3, 6, 4] rfl rfl rfl (by decide) rfl rfl (fun H locs hP hD hS => ?_)
          refine lv_goto (tgt := 55) hx hb dX9_goMinute_50 (by decide) ?_
          exact J55 x5 y37 t_queueMany t_servedNow t_doneAt t_queueNow t_servedAt hM _ _ hP hD hS _ (lv_sub hl [0, 1, 2, 3, 4] rfl)
  have J24 : ∀ (x5 : Int32) (t_queueMany : Int32) (t_servedNow : Int32) (t_doneAt : Int32) (t_queueNow : Nat → Int32) (t_servedAt : Nat → Int32), Mo_goMinute_l24 p_minute p_who p_set t_persons t_law t_kindOf t_comes t_wants t_runs x5 t_queueMany t_servedNow t_doneAt t_queueNow t_servedAt = some o → ∀ (H : Heap) (locs : List Loc), va_P D vwCl (w_Mo_goMinute cI cJ cS q_t q_t_kindOf q_t_comes q_t_wants q_t_runs q_t_readKind q_t_readComes q_t_readWants q_t_queueNow q_t_servedAt q_t_comesWas q_t_readingOf q_t_readingAt q_t_sheetSize q_t_sheetLane q_t_sheet q_t_hands t_fault t_persons t_law t_bellSet t_readAt t_readLaw t_readMany t_queueMany t_servedNow t_doneAt t_readings t_whichMany t_whichOne t_whichTwo t_traceNow t_kindOf t_comes t_wants t_runs t_queueNow t_servedAt) H → va_D A (w_Mo_goMinute cI cJ cS q_t q_t_kindOf q_t_comes q_t_wants q_t_runs q_t_readKind q_t_readComes q_t_readWants q_t_queueNow q_t_servedAt q_t_comesWas q_t_readingOf q_t_readingAt q_t_sheetSize q_t_sheetLane q_t_sheet q_t_hands t_fault t_persons t_law t_bellSet t_readAt t_readLaw t_readMany t_queueMany t_servedNow t_doneAt t_readings t_whichMany t_whichOne t_whichTwo t_traceNow t_kindOf t_comes t_wants t_runs t_queueNow t_servedAt) → va_S A s.heap H locs → ∀ ls : Array Slot, lv_has ls 7 [(0, .ref q_t), (1, .int p_minute), (2, .int p_who), (3, .long p_set), (5, .int x5)] → W p l e (headSpec wsX9_goMinute rm_Mo_goMinute).room s m args below meth c H locs 0 0 (MQ below (CQv D (w_Mo_goMinute cI cJ cS q_t q_t_kindOf q_t_comes q_t_wants q_t_runs q_t_readKind q_t_readComes q_t_readWants q_t_queueNow q_t_servedAt q_t_comesWas q_t_readingOf q_t_readingAt q_t_sheetSize q_t_sheetLane q_t_sheet q_t_hands t_fault t_persons t_law t_bellSet t_readAt t_readLaw t_readMany o.1 o.2.1 o.2.2.1 t_readings t_whichMany t_whichOne t_whichTwo t_traceNow t_kindOf t_comes t_wants t_runs o.2.2.2.1 o.2.2.2.2) A) args s 0 0 A) (F0 m 24 ls []) := by
    intro x5 t_queueMany t_servedNow t_doneAt t_queueNow t_servedAt hM
    unfold Mo_goMinute_l24 at hM
    obtain ⟨n0, hM⟩ := fin_some hM
    exact (L24 n0) x5 t_queueMany t_servedNow t_doneAt t_queueNow t_servedAt hM
  unfold Mo_goMinute at hM
  refine lv_aload_n hx hb dX9_goMinute_0 rfl (lv_at hl 0 rfl) ?_
  refine va_get (ci := 8) (v := .int t_servedNow) (C := RX9) (T := TX9) (N := 31) hx hb hts iX9 hown hK.1 hP 0 rfl rfl 16 (Nat.le_of_ble_eq_true rfl) k0 (fun _ h9 => h9) rfl dX9_goMinute_1 ?_
  refine lv_if_lt (tgt := 21) hx hb dX9_goMinute_4 (by decide) (fun c1 => ?_) (fun c1 => ?_)
  · have hM := (o_if hM).1 c1
    refine lv_iconst (v := 0) hx hb dX9_goMinute_21 (by decide) ?_
    refine lv_istore (lv' := [(5, .int 0), (0, .ref q_t), (1, .int p_minute), (2, .int p_who), (3, .long p_set)]) hx hb dX9_goMinute_22 hl (Nat.le_of_ble_eq_true rfl) rfl (fun ls hl => ?_)
    exact J24 0 t_queueMany t_servedNow t_doneAt t_queueNow t_servedAt hM _ _ hP hD hS _ (lv_sub hl [1, 2, 3, 4, 0] rfl)
  · have hM := (o_if hM).2 c1
    refine lv_aload_n hx hb dX9_goMinute_7 rfl (lv_at hl 0 rfl) ?_
    refine va_get (ci := 8) (v := .int t_doneAt) (C := RX9) (T := TX9) (N := 31) hx hb hts iX9 hown hK.1 hP 0 rfl rfl 17 (Nat.le_of_ble_eq_true rfl) k6 (fun _ h9 => h9) rfl dX9_goMinute_8 ?_
    refine lv_iload_n hx hb dX9_goMinute_11 rfl (lv_at hl 1 rfl) ?_
    refine lv_icmp_ne (tgt := 21) hx hb dX9_goMinute_12 (by decide) (fun c39 => ?_) (fun c39 => ?_)
    · have hM := (o_if hM).2 c39
      refine lv_iconst (v := 0) hx hb dX9_goMinute_21 (by decide) ?_
      refine lv_istore (lv' := [(5, .int 0), (0, .ref q_t), (1, .int p_minute), (2, .int p_who), (3, .long p_set)]) hx hb dX9_goMinute_22 hl (Nat.le_of_ble_eq_true rfl) rfl (fun ls hl => ?_)
      exact J24 0 t_queueMany t_servedNow t_doneAt t_queueNow t_servedAt hM _ _ hP hD hS _ (lv_sub hl [1, 2, 3, 4, 0] rfl)
    · have hM := (o_if hM).1 c39
      refine lv_aload_n hx hb dX9_goMinute_15 rfl (lv_at hl 0 rfl) ?_
      refine lv_bipush (v := (-9)) hx hb dX9_goMinute_16 (by decide) ?_
      refine va_put (ci := 8) (v := .int (-9)) (ty := .int) (C := RX9) (T := TX9) (N := 31) hx hb hts iX9 tyX9 tyX9_ok nmX9 hown hK.1 hP hD hS 0 rfl rfl 16 (Nat.le_of_ble_eq_true rfl) k0 (fun _ h9 => h9) rfl (tyX9_ok 16 (Nat.le_of_ble_eq_true rfl)) rfl rfl (Nat.le_of_ble_eq_true rfl) dX9_goMinute_18 (fun H locs hP hD hS => ?_)
      have hP : va_P D vwCl (w_Mo_goMinute cI cJ cS q_t q_t_kindOf q_t_comes q_t_wants q_t_runs q_t_readKind q_t_readComes q_t_readWants q_t_queueNow q_t_servedAt q_t_comesWas q_t_readingOf q_t_readingAt q_t_sheetSize q_t_sheetLane q_t_sheet q_t_hands t_fault t_persons t_law t_bellSet t_readAt t_readLaw t_readMany t_queueMany (-9) t_doneAt t_readings t_whichMany t_whichOne t_whichTwo t_traceNow t_kindOf t_comes t_wants t_runs t_queueNow t_servedAt) H := hP
      have hD : va_D A (w_Mo_goMinute cI cJ cS q_t q_t_kindOf q_t_comes q_t_wants q_t_runs q_t_readKind q_t_readComes q_t_readWants q_t_queueNow q_t_servedAt q_t_comesWas q_t_readingOf q_t_readingAt q_t_sheetSize q_t_sheetLane q_t_sheet q_t_hands t_fault t_persons t_law t_bellSet t_readAt t_readLaw t_readMany t_queueMany (-9) t_doneAt t_readings t_whichMany t_whichOne t_whichTwo t_traceNow t_kindOf t_comes t_wants t_runs t_queueNow t_servedAt) := hD
      refine lv_iconst (v := 0) hx hb dX9_goMinute_21 (by decide) ?_
      refine lv_istore (lv' := [(5, .int 0), (0, .ref q_t), (1, .int p_minute), (2, .int p_who), (3, .long p_set)]) hx hb dX9_goMinute_22 hl (Nat.le_of_ble_eq_true rfl) rfl (fun ls hl => ?_)
      exact J24 0 t_queueMany (-9) t_doneAt t_queueNow t_servedAt hM _ _ hP hD hS _ (lv_sub hl [1, 2, 3, 4, 0] rfl)
/-! ===== TurnQueueModel.goDay ===== -/
abbrev w_Mo_goDay (cI cJ cS : ClassId) (q_t : Nat) (q_t_kindOf : Nat) (q_t_comes : Nat) (q_t_wants : Nat) (q_t_runs : Nat) (q_t_readKind : Nat) (q_t_readComes : Nat) (q_t_readWants : Nat) (q_t_queueNow : Nat) (q_t_servedAt : Nat) (q_t_comesWas : Nat) (q_t_readingOf : Nat) (q_t_readingAt : Nat) (q_t_sheetSize : Nat) (q_t_sheetLane : Nat) (q_t_sheet : Nat) (q_t_hands : Nat) (t_fault : Int32) (t_persons : Int32) (t_law : Int32) (t_bellSet : Int64) (t_readAt : Int32) (t_readLaw : Int32) (t_readMany : Int32) (t_queueMany : Int32) (t_servedNow : Int32) (t_doneAt : Int32) (t_readings : Int32) (t_whichMany : Int32) (t_whichOne : Int32) (t_whichTwo : Int32) (t_traceNow : Int32) (t_kindOf : Nat → Int32) (t_comes : Nat → Int32) (t_wants : Nat → Int32) (t_runs : Nat → Int32) (t_queueNow : Nat → Int32) (t_servedAt : Nat → Int32) : va_W := [(q_t, .inr (8, [.int t_fault, .int t_persons, .int t_law, .ref q_t_kindOf, .ref q_t_comes, .ref q_t_wants, .ref q_t_runs, .long t_bellSet, .int t_readAt, .int t_readLaw, .int t_readMany, .ref q_t_readKind, .ref q_t_readComes, .ref q_t_readWants, .ref q_t_queueNow, .int t_queueMany, .int t_servedNow, .int t_doneAt, .ref q_t_servedAt, .ref q_t_comesWas, .int t_readings, .ref q_t_readingOf, .ref q_t_readingAt, .int t_whichMany, .int t_whichOne, .int t_whichTwo, .ref q_t_sheetSize, .ref q_t_sheetLane, .ref q_t_sheet, .ref q_t_hands, .int t_traceNow])), (q_t_kindOf, ar cI 7 t_kindOf), (q_t_comes, ar cI 7 t_comes), (q_t_wants, ar cI 7 t_wants), (q_t_runs, ar cI 7 t_runs), (q_t_queueNow, ar cI 7 t_queueNow), (q_t_servedAt, ar cI 7 t_servedAt)]
abbrev rm_Mo_goDay : Room := { frames := 3, cells := 0, slots := 0, locals := 70 }
noncomputable def Mo_goDay_b7 (p_who : Int32) (p_set : Int64) (t_persons : Int32) (t_law : Int32) (t_kindOf : Nat → Int32) (t_comes : Nat → Int32) (t_wants : Nat → Int32) (t_runs : Nat → Int32) (x4 : Int32) (t_queueMany : Int32) (t_servedNow : Int32) (t_doneAt : Int32) (t_queueNow : Nat → Int32) (t_servedAt : Nat → Int32) : Option ((Int32 × Int32 × Int32 × Int32 × (Nat → Int32) × (Nat → Int32)) ⊕ (Int32 × Int32 × Int32 × (Nat → Int32) × (Nat → Int32))) :=
  if 200 ≤ x4 then
    some (.inr (t_queueMany, t_servedNow, t_doneAt, t_queueNow, t_servedAt))
  else
    (Mo_goMinute x4 p_who p_set t_persons t_law t_kindOf t_comes t_wants t_runs t_queueMany t_servedNow t_doneAt t_queueNow t_servedAt).bind fun y4 =>
    lt (x4 + 1) fun y6 =>
    some (.inl (y6, y4.1, y4.2.1, y4.2.2.1, y4.2.2.2.1, y4.2.2.2.2))
noncomputable def Mo_goDay_s7 (p_who : Int32) (p_set : Int64) (t_persons : Int32) (t_law : Int32) (t_kindOf : Nat → Int32) (t_comes : Nat → Int32) (t_wants : Nat → Int32) (t_runs : Nat → Int32) : (Int32 × Int32 × Int32 × Int32 × (Nat → Int32) × (Nat → Int32)) → Option ((Int32 × Int32 × Int32 × Int32 × (Nat → Int32) × (Nat → Int32)) ⊕ (Int32 × Int32 × Int32 × (Nat → Int32) × (Nat → Int32))) := fun x => Mo_goDay_b7 p_who p_set t_persons t_law t_kindOf t_comes t_wants t_runs x.1 x.2.1 x.2.2.1 x.2.2.2.1 x.2.2.2.2.1 x.2.2.2.2.2
noncomputable def Mo_goDay_l7 (p_who : Int32) (p_set : Int64) (t_persons : Int32) (t_law : Int32) (t_kindOf : Nat → Int32) (t_comes : Nat → Int32) (t_wants : Nat → Int32) (t_runs : Nat → Int32) (x4 : Int32) (t_queueMany : Int32) (t_servedNow : Int32) (t_doneAt : Int32) (t_queueNow : Nat → Int32) (t_servedAt : Nat → Int32) : Option (Int32 × Int32 × Int32 × (Nat → Int32) × (Nat → Int32)) := fin (Mo_goDay_s7 p_who p_set t_persons t_law t_kindOf t_comes t_wants t_runs) (x4, t_queueMany, t_servedNow, t_doneAt, t_queueNow, t_servedAt)
noncomputable def Mo_goDay (p_who : Int32) (p_set : Int64) (t_persons : Int32) (t_law : Int32) (t_kindOf : Nat → Int32) (t_comes : Nat → Int32) (t_wants : Nat → Int32) (t_runs : Nat → Int32) (t_queueMany : Int32) (t_servedNow : Int32) (t_doneAt : Int32) (t_queueNow : Nat → Int32) (t_servedAt : Nat → Int32) : Option (Int32 × Int32 × Int32 × (Nat → Int32) × (Nat → Int32)) :=
  (Mo_begin t_queueMany t_servedNow t_servedAt).bind fun y1 =>
  Mo_goDay_l7 p_who p_set t_persons t_law t_kindOf t_comes t_wants t_runs 0 y1.1 y1.2.1 t_doneAt t_queueNow y1.2.2
theorem Mo_goDay_l7_eq (p_who : Int32) (p_set : Int64) (t_persons : Int32) (t_law : Int32) (t_kindOf : Nat → Int32) (t_comes : Nat → Int32) (t_wants : Nat → Int32) (t_runs : Nat → Int32) (x4 : Int32) (t_queueMany : Int32) (t_servedNow : Int32) (t_doneAt : Int32) (t_queueNow : Nat → Int32) (t_servedAt : Nat → Int32) : Mo_goDay_l7 p_who p_set t_persons t_law t_kindOf t_comes t_wants t_runs x4 t_queueMany t_servedNow t_doneAt t_queueNow t_servedAt = (Mo_goDay_b7 p_who p_set t_persons t_law t_kindOf t_comes t_wants t_runs x4 t_queueMany t_servedNow t_doneAt t_queueNow t_servedAt).bind (sg (fin (Mo_goDay_s7 p_who p_set t_persons t_law t_kindOf t_comes t_wants t_runs))) := by
  unfold Mo_goDay_l7
  exact fin_eq _ _
theorem Mo_goDay_l7_fd (p_who : Int32) (p_set : Int64) (t_persons : Int32) (t_law : Int32) (t_kindOf : Nat → Int32) (t_comes : Nat → Int32) (t_wants : Nat → Int32) (t_runs : Nat → Int32) (x4 : Int32) (t_queueMany : Int32) (t_servedNow : Int32) (t_doneAt : Int32) (t_queueNow : Nat → Int32) (t_servedAt : Nat → Int32) : fin (Mo_goDay_s7 p_who p_set t_persons t_law t_kindOf t_comes t_wants t_runs) (x4, t_queueMany, t_servedNow, t_doneAt, t_queueNow, t_servedAt) = Mo_goDay_l7 p_who p_set t_persons t_law t_kindOf t_comes t_wants t_runs x4 t_queueMany t_servedNow t_doneAt t_queueNow t_servedAt := rfl
set_option maxRecDepth 100000 in
set_option maxHeartbeats 4000000 in
theorem c_Mo_goDay (l : Launch) (D : va_G) (cI cJ cS : ClassId) (q_t q_t_kindOf q_t_comes q_t_wants q_t_runs q_t_readKind q_t_readComes q_t_readWants q_t_queueNow q_t_servedAt q_t_comesWas q_t_readingOf q_t_readingAt q_t_sheetSize q_t_sheetLane q_t_sheet q_t_hands : Nat) (t_fault : Int32) (t_persons : Int32) (t_law : Int32) (t_bellSet : Int64) (t_readAt : Int32) (t_readLaw : Int32) (t_readMany : Int32) (t_queueMany : Int32) (t_servedNow : Int32) (t_doneAt : Int32) (t_readings : Int32) (t_whichMany : Int32) (t_whichOne : Int32) (t_whichTwo : Int32) (t_traceNow : Int32) (t_kindOf : Nat → Int32) (t_comes : Nat → Int32) (t_wants : Nat → Int32) (t_runs : Nat → Int32) (t_queueNow : Nat → Int32) (t_servedAt : Nat → Int32) (p_who : Int32) (p_set : Int64) (o : Int32 × Int32 × Int32 × (Nat → Int32) × (Nat → Int32)) (hM : Mo_goDay p_who p_set t_persons t_law t_kindOf t_comes t_wants t_runs t_queueMany t_servedNow t_doneAt t_queueNow t_servedAt = some o) : Cv l yX9_goDay wsX9_goDay rm_Mo_goDay D cI cJ cS [.ref q_t, .int p_who, .long p_set] (w_Mo_goDay cI cJ cS q_t q_t_kindOf q_t_comes q_t_wants q_t_runs q_t_readKind q_t_readComes q_t_readWants q_t_queueNow q_t_servedAt q_t_comesWas q_t_readingOf q_t_readingAt q_t_sheetSize q_t_sheetLane q_t_sheet q_t_hands t_fault t_persons t_law t_bellSet t_readAt t_readLaw t_readMany t_queueMany t_servedNow t_doneAt t_readings t_whichMany t_whichOne t_whichTwo t_traceNow t_kindOf t_comes t_wants t_runs t_queueNow t_servedAt) (w_Mo_goDay cI cJ cS q_t q_t_kindOf q_t_comes q_t_wants q_t_runs q_t_readKind q_t_readComes q_t_readWants q_t_queueNow q_t_servedAt q_t_comesWas q_t_readingOf q_t_readingAt q_t_sheetSize q_t_sheetLane q_t_sheet q_t_hands t_fault t_persons t_law t_bellSet t_readAt t_readLaw t_readMany o.1 o.2.1 o.2.2.1 t_readings t_whichMany t_whichOne t_whichTwo t_traceNow t_kindOf t_comes t_wants t_runs o.2.2.2.1 o.2.2.2.2) := by
  refine Cv.of (cc := cX9_goDay) (maxL := 5) (ret := none) (by decide) rfl (Nat.le_of_ble_eq_true rfl) ?_
  intro p e s m args below meth c A ls hE
  obtain ⟨hx, hb, hr, hml, hown, hts, hlocks, hK, hA, hP, hD, hS, hl⟩ := hE
  have hown : s.vm.findClass RX9 = some m.cls := hown
  have hl : lv_has ls 5 [(0, .ref q_t), (1, .int p_who), (2, .long p_set)] := hl
  have L7 : ∀ n : Nat, (∀ (x4 : Int32) (t_queueMany : Int32) (t_servedNow : Int32) (t_doneAt : Int32) (t_queueNow : Nat → Int32) (t_servedAt : Nat → Int32), itr (Mo_goDay_s7 p_who p_set t_persons t_law t_kindOf t_comes t_wants t_runs) n (x4, t_queueMany, t_servedNow, t_doneAt, t_queueNow, t_servedAt) = some o → ∀ (H : Heap) (locs : List Loc), va_P D vwCl (w_Mo_goDay cI cJ cS q_t q_t_kindOf q_t_comes q_t_wants q_t_runs q_t_readKind q_t_readComes q_t_readWants q_t_queueNow q_t_servedAt q_t_comesWas q_t_readingOf q_t_readingAt q_t_sheetSize q_t_sheetLane q_t_sheet q_t_hands t_fault t_persons t_law t_bellSet t_readAt t_readLaw t_readMany t_queueMany t_servedNow t_doneAt t_readings t_whichMany t_whichOne t_whichTwo t_traceNow t_kindOf t_comes t_wants t_runs t_queueNow t_servedAt) H → va_D A (w_Mo_goDay cI cJ cS q_t q_t_kindOf q_t_comes q_t_wants q_t_runs q_t_readKind q_t_readComes q_t_readWants q_t_queueNow q_t_servedAt q_t_comesWas q_t_readingOf q_t_readingAt q_t_sheetSize q_t_sheetLane q_t_sheet q_t_hands t_fault t_persons t_law t_bellSet t_readAt t_readLaw t_readMany t_queueMany t_servedNow t_doneAt t_readings t_whichMany t_whichOne t_whichTwo t_traceNow t_kindOf t_comes t_wants t_runs t_queueNow t_servedAt) → va_S A s.heap H locs → ∀ ls : Array Slot, lv_has ls 5 [(0, .ref q_t), (1, .int p_who), (2, .long p_set), (4, .int x4)] → W p l e (headSpec wsX9_goDay rm_Mo_goDay).room s m args below meth c H locs 0 0 (MQ below (CQv D (w_Mo_goDay cI cJ cS q_t q_t_kindOf q_t_comes q_t_wants q_t_runs q_t_readKind q_t_readComes q_t_readWants q_t_queueNow q_t_servedAt q_t_comesWas q_t_readingOf q_t_readingAt q_t_sheetSize q_t_sheetLane q_t_sheet q_t_hands t_fault t_persons t_law t_bellSet t_readAt t_readLaw t_readMany o.1 o.2.1 o.2.2.1 t_readings t_whichMany t_whichOne t_whichTwo t_traceNow t_kindOf t_comes t_wants t_runs o.2.2.2.1 o.2.2.2.2) A) args s 0 0 A) (F0 m 7 ls [])) := by
    intro n
    induction n with
    | zero => exact fun _ _ _ _ _ _ hM => (itr_0 hM).elim
    | succ n ih =>
      intro x4 t_queueMany t_servedNow t_doneAt t_queueNow t_servedAt hM H locs hP hD hS ls hl
      have hM : (Mo_goDay_b7 p_who p_set t_persons t_law t_kindOf t_comes t_wants t_runs x4 t_queueMany t_servedNow t_doneAt t_queueNow t_servedAt).bind (sg (itr (Mo_goDay_s7 p_who p_set t_persons t_law t_kindOf t_comes t_wants t_runs) n)) = some o := hM
      unfold Mo_goDay_b7 at hM
      refine lv_iload hx hb dX9_goDay_7 (lv_at hl 3 rfl) ?_
      refine lv_sipush (v := 200) hx hb dX9_goDay_9 (by decide) ?_
      refine lv_icmp_ge (tgt := 29) hx hb dX9_goDay_12 (by decide) (fun c3 => ?_) (fun c3 => ?_)
      · have hM := (s_if hM).1 c3
        have hM := (Option.some.inj (s_rt hM))
        subst hM
        exact rt_v hx hb hr hlocks hP hD hS dX9_goDay_29
      · have hM := (s_if hM).2 c3
        refine lv_aload_n hx hb dX9_goDay_15 rfl (lv_at hl 0 rfl) ?_
        refine lv_iload hx hb dX9_goDay_16 (lv_at hl 3 rfl) ?_
        refine lv_iload_n hx hb dX9_goDay_18 rfl (lv_at hl 1 rfl) ?_
        refine lv_lload_n hx hb dX9_goDay_19 rfl (lv_at hl 2 rfl) ?_
        obtain ⟨y4, h5, hM⟩ := s_bd hM
        refine af_v (ws2 := (w_Mo_goDay cI cJ cS q_t q_t_kindOf q_t_comes q_t_wants q_t_runs q_t_readKind q_t_readComes q_t_readWants q_t_queueNow q_t_servedAt q_t_comesWas q_t_readingOf q_t_readingAt q_t_sheetSize q_t_sheetLane q_t_sheet q_t_hands t_fault t_persons t_law t_bellSet t_readAt t_readLaw t_readMany y4.1 y4.2.1 y4.2.2.1 t_readings t_whichMany t_whichOne t_whichTwo t_traceNow t_kindOf t_comes t_wants t_runs y4.2.2.2.1 y4.2.2.2.2)) (va_runV (As := [.int x4, .int p_who, .long p_set]) (rest := []) ⟨hx, hb, hml, hown, hts⟩ (c_Mo_goMinute l D cI cJ cS q_t q_t_kindOf q_t_comes q_t_wants q_t_runs q_t_readKind q_t_readComes q_t_readWants q_t_queueNow q_t_servedAt q_t_comesWas q_t_readingOf q_t_readingAt q_t_sheetSize q_t_sheetLane q_t_sheet q_t_hands t_fault t_persons t_law t_bellSet t_readAt t_readLaw t_readMany t_queueMany t_servedNow t_doneAt t_readings t_whichMany t_whichOne t_whichTwo t_traceNow t_kindOf t_comes t_wants t_runs t_queueNow t_servedAt x4 p_who p_set y4 h5 _) (cwV 3 hts gX9_goDay_X9_goMinute rfl rfl rfl (by decide +kernel) ⟨(Nat.le_of_ble_eq_true rfl), (Nat.le_of_ble_eq_true rfl)⟩) (pre_V hK hP hD [0, 1, 2, 3, 4, 5, 6] rfl rfl rfl rfl) rfl rfl hl.1 rfl (lv_room (Nat.le_of_ble_eq_true rfl)) dX9_goDay_20 ⟨Nat.zero_le _, Nat.zero_le _⟩) hP hD hS hA [0, 1, 2, 3, 4, 5, 6] [] [0, 1, 2, 3, 4, 5, 6] rfl rfl rfl (by decide) rfl rfl (fun H locs hP hD hS => ?_)
        obtain ⟨y6, ey6⟩ : ∃ y : Int32, y = x4 + 1 := ⟨_, rfl⟩
        have hM := s_lt hM y6 ey6
        refine lv_iinc (v := y6) (lv' := [(4, .int y6), (0, .ref q_t), (1, .int p_who), (2, .long p_set)]) hx hb dX9_goDay_23 hl (k := 3) rfl (by rw [ey6]; rfl) (Nat.le_of_ble_eq_true rfl) rfl (fun ls hl => ?_)
        refine lv_goto (tgt := 7) hx hb dX9_goDay_26 (by decide) ?_
        exact ih y6 y4.1 y4.2.1 y4.2.2.1 y4.2.2.2.1 y4.2.2.2.2 (s_jp hM) _ _ hP hD hS _ (lv_sub hl [1, 2, 3, 0] rfl)
  have J7 : ∀ (x4 : Int32) (t_queueMany : Int32) (t_servedNow : Int32) (t_doneAt : Int32) (t_queueNow : Nat → Int32) (t_servedAt : Nat → Int32), Mo_goDay_l7 p_who p_set t_persons t_law t_kindOf t_comes t_wants t_runs x4 t_queueMany t_servedNow t_doneAt t_queueNow t_servedAt = some o → ∀ (H : Heap) (locs : List Loc), va_P D vwCl (w_Mo_goDay cI cJ cS q_t q_t_kindOf q_t_comes q_t_wants q_t_runs q_t_readKind q_t_readComes q_t_readWants q_t_queueNow q_t_servedAt q_t_comesWas q_t_readingOf q_t_readingAt q_t_sheetSize q_t_sheetLane q_t_sheet q_t_hands t_fault t_persons t_law t_bellSet t_readAt t_readLaw t_readMany t_queueMany t_servedNow t_doneAt t_readings t_whichMany t_whichOne t_whichTwo t_traceNow t_kindOf t_comes t_wants t_runs t_queueNow t_servedAt) H → va_D A (w_Mo_goDay cI cJ cS q_t q_t_kindOf q_t_comes q_t_wants q_t_runs q_t_readKind q_t_readComes q_t_readWants q_t_queueNow q_t_servedAt q_t_comesWas q_t_readingOf q_t_readingAt q_t_sheetSize q_t_sheetLane q_t_sheet q_t_hands t_fault t_persons t_law t_bellSet t_readAt t_readLaw t_readMany t_queueMany t_servedNow t_doneAt t_readings t_whichMany t_whichOne t_whichTwo t_traceNow t_kindOf t_comes t_wants t_runs t_queueNow t_servedAt) → va_S A s.heap H locs → ∀ ls : Array Slot, lv_has ls 5 [(0, .ref q_t), (1, .int p_who), (2, .long p_set), (4, .int x4)] → W p l e (headSpec wsX9_goDay rm_Mo_goDay).room s m args below meth c H locs 0 0 (MQ below (CQv D (w_Mo_goDay cI cJ cS q_t q_t_kindOf q_t_comes q_t_wants q_t_runs q_t_readKind q_t_readComes q_t_readWants q_t_queueNow q_t_servedAt q_t_comesWas q_t_readingOf q_t_readingAt q_t_sheetSize q_t_sheetLane q_t_sheet q_t_hands t_fault t_persons t_law t_bellSet t_readAt t_readLaw t_readMany o.1 o.2.1 o.2.2.1 t_readings t_whichMany t_whichOne t_whichTwo t_traceNow t_kindOf t_comes t_wants t_runs o.2.2.2.1 o.2.2.2.2) A) args s 0 0 A) (F0 m 7 ls []) := by
    intro x4 t_queueMany t_servedNow t_doneAt t_queueNow t_servedAt hM
    unfold Mo_goDay_l7 at hM
    obtain ⟨n0, hM⟩ := fin_some hM
    exact (L7 n0) x4 t_queueMany t_servedNow t_doneAt t_queueNow t_servedAt hM
  unfold Mo_goDay at hM
  refine lv_aload_n hx hb dX9_goDay_0 rfl (lv_at hl 0 rfl) ?_
  obtain ⟨y1, h2, hM⟩ := o_bd hM
  refine af_v (ws2 := (w_Mo_goDay cI cJ cS q_t q_t_kindOf q_t_comes q_t_wants q_t_runs q_t_readKind q_t_readComes q_t_readWants q_t_queueNow q_t_servedAt q_t_comesWas q_t_readingOf q_t_readingAt q_t_sheetSize q_t_sheetLane q_t_sheet q_t_hands t_fault t_persons t_law t_bellSet t_readAt t_readLaw t_readMany y1.1 y1.2.1 t_doneAt t_readings t_whichMany t_whichOne t_whichTwo t_traceNow t_kindOf t_comes t_wants t_runs t_queueNow y1.2.2)) (va_runV (As := []) (rest := []) ⟨hx, hb, hml, hown, hts⟩ (c_Mo_begin l D cI cJ cS q_t q_t_kindOf q_t_comes q_t_wants q_t_runs q_t_readKind q_t_readComes q_t_readWants q_t_queueNow q_t_servedAt q_t_comesWas q_t_readingOf q_t_readingAt q_t_sheetSize q_t_sheetLane q_t_sheet q_t_hands t_fault t_persons t_law t_bellSet t_readAt t_readLaw t_readMany t_queueMany t_servedNow t_doneAt t_readings t_whichMany t_whichOne t_whichTwo t_traceNow t_servedAt y1 h2 _) (cwV 0 hts gX9_goDay_X9_begin rfl rfl rfl (by decide +kernel) ⟨(Nat.le_of_ble_eq_true rfl), (Nat.le_of_ble_eq_true rfl)⟩) (pre_V hK hP hD [0, 6] rfl rfl rfl rfl) rfl rfl hl.1 rfl (lv_room (Nat.le_of_ble_eq_true rfl)) dX9_goDay_1 ⟨Nat.zero_le _, Nat.zero_le _⟩) hP hD hS hA [0, 6] [1, 2, 3, 4, 5] [5, 0, 1, 2, 3, 4, 6] rfl rfl rfl (by decide) rfl rfl (fun H locs hP hD hS => ?_)
  refine lv_iconst (v := 0) hx hb dX9_goDay_4 (by decide) ?_
  refine lv_istore (lv' := [(4, .int 0), (0, .ref q_t), (1, .int p_who), (2, .long p_set)]) hx hb dX9_goDay_5 hl (Nat.le_of_ble_eq_true rfl) rfl (fun ls hl => ?_)
  exact J7 0 y1.1 y1.2.1 t_doneAt t_queueNow y1.2.2 hM _ _ hP hD hS _ (lv_sub hl [1, 2, 3, 0] rfl)
/-! ===== TurnQueueModel.all ===== -/
abbrev w_Mo_all (cI cJ cS : ClassId) (q_t : Nat) (q_t_kindOf : Nat) (q_t_comes : Nat) (q_t_wants : Nat) (q_t_runs : Nat) (q_t_readKind : Nat) (q_t_readComes : Nat) (q_t_readWants : Nat) (q_t_queueNow : Nat) (q_t_servedAt : Nat) (q_t_comesWas : Nat) (q_t_readingOf : Nat) (q_t_readingAt : Nat) (q_t_sheetSize : Nat) (q_t_sheetLane : Nat) (q_t_sheet : Nat) (q_t_hands : Nat) (t_fault : Int32) (t_persons : Int32) (t_law : Int32) (t_bellSet : Int64) (t_readAt : Int32) (t_readLaw : Int32) (t_readMany : Int32) (t_queueMany : Int32) (t_servedNow : Int32) (t_doneAt : Int32) (t_readings : Int32) (t_whichMany : Int32) (t_whichOne : Int32) (t_whichTwo : Int32) (t_traceNow : Int32) : va_W := [(q_t, .inr (8, [.int t_fault, .int t_persons, .int t_law, .ref q_t_kindOf, .ref q_t_comes, .ref q_t_wants, .ref q_t_runs, .long t_bellSet, .int t_readAt, .int t_readLaw, .int t_readMany, .ref q_t_readKind, .ref q_t_readComes, .ref q_t_readWants, .ref q_t_queueNow, .int t_queueMany, .int t_servedNow, .int t_doneAt, .ref q_t_servedAt, .ref q_t_comesWas, .int t_readings, .ref q_t_readingOf, .ref q_t_readingAt, .int t_whichMany, .int t_whichOne, .int t_whichTwo, .ref q_t_sheetSize, .ref q_t_sheetLane, .ref q_t_sheet, .ref q_t_hands, .int t_traceNow]))]
abbrev rm_Mo_all : Room := { frames := 0, cells := 0, slots := 0, locals := 0 }
noncomputable def Mo_all (t_persons : Int32) : Option (Int32) :=
  some (((1 : Int32) <<< (t_persons &&& 31)) - 1)
set_option maxRecDepth 100000 in
set_option maxHeartbeats 4000000 in
theorem c_Mo_all (l : Launch) (D : va_G) (cI cJ cS : ClassId) (q_t q_t_kindOf q_t_comes q_t_wants q_t_runs q_t_readKind q_t_readComes q_t_readWants q_t_queueNow q_t_servedAt q_t_comesWas q_t_readingOf q_t_readingAt q_t_sheetSize q_t_sheetLane q_t_sheet q_t_hands : Nat) (t_fault : Int32) (t_persons : Int32) (t_law : Int32) (t_bellSet : Int64) (t_readAt : Int32) (t_readLaw : Int32) (t_readMany : Int32) (t_queueMany : Int32) (t_servedNow : Int32) (t_doneAt : Int32) (t_readings : Int32) (t_whichMany : Int32) (t_whichOne : Int32) (t_whichTwo : Int32) (t_traceNow : Int32) (o : Int32) (hM : Mo_all t_persons = some o) : Ci l yX9_all wsX9_all rm_Mo_all D cI cJ cS [.ref q_t] (w_Mo_all cI cJ cS q_t q_t_kindOf q_t_comes q_t_wants q_t_runs q_t_readKind q_t_readComes q_t_readWants q_t_queueNow q_t_servedAt q_t_comesWas q_t_readingOf q_t_readingAt q_t_sheetSize q_t_sheetLane q_t_sheet q_t_hands t_fault t_persons t_law t_bellSet t_readAt t_readLaw t_readMany t_queueMany t_servedNow t_doneAt t_readings t_whichMany t_whichOne t_whichTwo t_traceNow) (w_Mo_all cI cJ cS q_t q_t_kindOf q_t_comes q_t_wants q_t_runs q_t_readKind q_t_readComes q_t_readWants q_t_queueNow q_t_servedAt q_t_comesWas q_t_readingOf q_t_readingAt q_t_sheetSize q_t_sheetLane q_t_sheet q_t_hands t_fault t_persons t_law t_bellSet t_readAt t_readLaw t_readMany t_queueMany t_servedNow t_doneAt t_readings t_whichMany t_whichOne t_whichTwo t_traceNow) o := by
  refine Ci.of (cc := cX9_all) (maxL := 1) (ret := (some .int)) (by decide) rfl (Nat.le_of_ble_eq_true rfl) ?_
  intro p e s m args below meth c A ls hE
  obtain ⟨hx, hb, hr, hml, hown, hts, hlocks, hK, hA, hP, hD, hS, hl⟩ := hE
  have hown : s.vm.findClass RX9 = some m.cls := hown
  have hl : lv_has ls 1 [(0, .ref q_t)] := hl
  have iX9 : ∀ w ∈ u_ws RX9 TX9 31, w ∈ wsX9_all := by decide +kernel
  have k0 := hts (.fieldLink RX9 68 "TurnQueueModel" "persons" "I") (by decide +kernel)
  unfold Mo_all at hM
  refine lv_iconst (v := 1) hx hb dX9_all_0 (by decide) ?_
  refine lv_aload_n hx hb dX9_all_1 rfl (lv_at hl 0 rfl) ?_
  refine va_get (ci := 8) (v := .int t_persons) (C := RX9) (T := TX9) (N := 31) hx hb hts iX9 hown hK.1 hP 0 rfl rfl 1 (Nat.le_of_ble_eq_true rfl) k0 (fun _ h9 => h9) rfl dX9_all_2 ?_
  refine lv_ishl hx hb dX9_all_5 ?_
  refine lv_iconst (v := 1) hx hb dX9_all_6 (by decide) ?_
  refine lv_isub hx hb dX9_all_7 ?_
  have hM := (Option.some.inj hM)
  subst hM
  exact rt_i hx hb hr hlocks hP hD hS dX9_all_8
/-! ===== TurnQueueModel.goNow ===== -/
abbrev w_Mo_goNow (cI cJ cS : ClassId) (q_t : Nat) (q_t_kindOf : Nat) (q_t_comes : Nat) (q_t_wants : Nat) (q_t_runs : Nat) (q_t_readKind : Nat) (q_t_readComes : Nat) (q_t_readWants : Nat) (q_t_queueNow : Nat) (q_t_servedAt : Nat) (q_t_comesWas : Nat) (q_t_readingOf : Nat) (q_t_readingAt : Nat) (q_t_sheetSize : Nat) (q_t_sheetLane : Nat) (q_t_sheet : Nat) (q_t_hands : Nat) (t_fault : Int32) (t_persons : Int32) (t_law : Int32) (t_bellSet : Int64) (t_readAt : Int32) (t_readLaw : Int32) (t_readMany : Int32) (t_queueMany : Int32) (t_servedNow : Int32) (t_doneAt : Int32) (t_readings : Int32) (t_whichMany : Int32) (t_whichOne : Int32) (t_whichTwo : Int32) (t_traceNow : Int32) (t_kindOf : Nat → Int32) (t_comes : Nat → Int32) (t_wants : Nat → Int32) (t_runs : Nat → Int32) (t_queueNow : Nat → Int32) (t_servedAt : Nat → Int32) : va_W := [(q_t, .inr (8, [.int t_fault, .int t_persons, .int t_law, .ref q_t_kindOf, .ref q_t_comes, .ref q_t_wants, .ref q_t_runs, .long t_bellSet, .int t_readAt, .int t_readLaw, .int t_readMany, .ref q_t_readKind, .ref q_t_readComes, .ref q_t_readWants, .ref q_t_queueNow, .int t_queueMany, .int t_servedNow, .int t_doneAt, .ref q_t_servedAt, .ref q_t_comesWas, .int t_readings, .ref q_t_readingOf, .ref q_t_readingAt, .int t_whichMany, .int t_whichOne, .int t_whichTwo, .ref q_t_sheetSize, .ref q_t_sheetLane, .ref q_t_sheet, .ref q_t_hands, .int t_traceNow])), (q_t_kindOf, ar cI 7 t_kindOf), (q_t_comes, ar cI 7 t_comes), (q_t_wants, ar cI 7 t_wants), (q_t_runs, ar cI 7 t_runs), (q_t_queueNow, ar cI 7 t_queueNow), (q_t_servedAt, ar cI 7 t_servedAt)]
abbrev rm_Mo_goNow : Room := { frames := 4, cells := 0, slots := 0, locals := 94 }
noncomputable def Mo_goNow (t_persons : Int32) (t_law : Int32) (t_bellSet : Int64) (t_kindOf : Nat → Int32) (t_comes : Nat → Int32) (t_wants : Nat → Int32) (t_runs : Nat → Int32) (t_queueMany : Int32) (t_servedNow : Int32) (t_doneAt : Int32) (t_queueNow : Nat → Int32) (t_servedAt : Nat → Int32) : Option (Int32 × Int32 × Int32 × (Nat → Int32) × (Nat → Int32)) :=
  (Mo_all t_persons).bind fun y1 =>
  (Mo_goDay y1 t_bellSet t_persons t_law t_kindOf t_comes t_wants t_runs t_queueMany t_servedNow t_doneAt t_queueNow t_servedAt).bind fun y3 =>
  some (y3.1, y3.2.1, y3.2.2.1, y3.2.2.2.1, y3.2.2.2.2)
set_option maxRecDepth 100000 in
set_option maxHeartbeats 4000000 in
theorem c_Mo_goNow (l : Launch) (D : va_G) (cI cJ cS : ClassId) (q_t q_t_kindOf q_t_comes q_t_wants q_t_runs q_t_readKind q_t_readComes q_t_readWants q_t_queueNow q_t_servedAt q_t_comesWas q_t_readingOf q_t_readingAt q_t_sheetSize q_t_sheetLane q_t_sheet q_t_hands : Nat) (t_fault : Int32) (t_persons : Int32) (t_law : Int32) (t_bellSet : Int64) (t_readAt : Int32) (t_readLaw : Int32) (t_readMany : Int32) (t_queueMany : Int32) (t_servedNow : Int32) (t_doneAt : Int32) (t_readings : Int32) (t_whichMany : Int32) (t_whichOne : Int32) (t_whichTwo : Int32) (t_traceNow : Int32) (t_kindOf : Nat → Int32) (t_comes : Nat → Int32) (t_wants : Nat → Int32) (t_runs : Nat → Int32) (t_queueNow : Nat → Int32) (t_servedAt : Nat → Int32) (o : Int32 × Int32 × Int32 × (Nat → Int32) × (Nat → Int32)) (hM : Mo_goNow t_persons t_law t_bellSet t_kindOf t_comes t_wants t_runs t_queueMany t_servedNow t_doneAt t_queueNow t_servedAt = some o) : Cv l yX9_goNow wsX9_goNow rm_Mo_goNow D cI cJ cS [.ref q_t] (w_Mo_goNow cI cJ cS q_t q_t_kindOf q_t_comes q_t_wants q_t_runs q_t_readKind q_t_readComes q_t_readWants q_t_queueNow q_t_servedAt q_t_comesWas q_t_readingOf q_t_readingAt q_t_sheetSize q_t_sheetLane q_t_sheet q_t_hands t_fault t_persons t_law t_bellSet t_readAt t_readLaw t_readMany t_queueMany t_servedNow t_doneAt t_readings t_whichMany t_whichOne t_whichTwo t_traceNow t_kindOf t_comes t_wants t_runs t_queueNow t_servedAt) (w_Mo_goNow cI cJ cS q_t q_t_kindOf q_t_comes q_t_wants q_t_runs q_t_readKind q_t_readComes q_t_readWants q_t_queueNow q_t_servedAt q_t_comesWas q_t_readingOf q_t_readingAt q_t_sheetSize q_t_sheetLane q_t_sheet q_t_hands t_fault t_persons t_law t_bellSet t_readAt t_readLaw t_readMany o.1 o.2.1 o.2.2.1 t_readings t_whichMany t_whichOne t_whichTwo t_traceNow t_kindOf t_comes t_wants t_runs o.2.2.2.1 o.2.2.2.2) := by
  refine Cv.of (cc := cX9_goNow) (maxL := 1) (ret := none) (by decide) rfl (Nat.le_of_ble_eq_true rfl) ?_
  intro p e s m args below meth c A ls hE
  obtain ⟨hx, hb, hr, hml, hown, hts, hlocks, hK, hA, hP, hD, hS, hl⟩ := hE
  have hown : s.vm.findClass RX9 = some m.cls := hown
  have hl : lv_has ls 1 [(0, .ref q_t)] := hl
  have iX9 : ∀ w ∈ u_ws RX9 TX9 31, w ∈ wsX9_goNow := by decide +kernel
  have k0 := hts (.fieldLink RX9 121 "TurnQueueModel" "bellSet" "J") (by decide +kernel)
  unfold Mo_goNow at hM
  refine lv_aload_n hx hb dX9_goNow_0 rfl (lv_at hl 0 rfl) ?_
  refine lv_aload_n hx hb dX9_goNow_1 rfl (lv_at hl 0 rfl) ?_
  obtain ⟨y1, h2, hM⟩ := o_bd hM
  refine af_i (ws2 := (w_Mo_goNow cI cJ cS q_t q_t_kindOf q_t_comes q_t_wants q_t_runs q_t_readKind q_t_readComes q_t_readWants q_t_queueNow q_t_servedAt q_t_comesWas q_t_readingOf q_t_readingAt q_t_sheetSize q_t_sheetLane q_t_sheet q_t_hands t_fault t_persons t_law t_bellSet t_readAt t_readLaw t_readMany t_queueMany t_servedNow t_doneAt t_readings t_whichMany t_whichOne t_whichTwo t_traceNow t_kindOf t_comes t_wants t_runs t_queueNow t_servedAt)) (va_runV (As := []) (rest := [.ref q_t]) ⟨hx, hb, hml, hown, hts⟩ (c_Mo_all l D cI cJ cS q_t q_t_kindOf q_t_comes q_t_wants q_t_runs q_t_readKind q_t_readComes q_t_readWants q_t_queueNow q_t_servedAt q_t_comesWas q_t_readingOf q_t_readingAt q_t_sheetSize q_t_sheetLane q_t_sheet q_t_hands t_fault t_persons t_law t_bellSet t_readAt t_readLaw t_readMany t_queueMany t_servedNow t_doneAt t_readings t_whichMany t_whichOne t_whichTwo t_traceNow y1 h2 _) (cwV 0 hts gX9_goNow_X9_all rfl rfl rfl (by decide +kernel) ⟨(Nat.le_of_ble_eq_true rfl), (Nat.le_of_ble_eq_true rfl)⟩) (pre_V hK hP hD [0] rfl rfl rfl rfl) rfl rfl hl.1 rfl (lv_room (Nat.le_of_ble_eq_true rfl)) dX9_goNow_2 ⟨Nat.zero_le _, Nat.zero_le _⟩) hP hD hS hA [0] [1, 2, 3, 4, 5, 6] [6, 0, 1, 2, 3, 4, 5] rfl rfl rfl (by decide) rfl rfl (fun H locs hP hD hS => ?_)
  refine lv_aload_n hx hb dX9_goNow_5 rfl (lv_at hl 0 rfl) ?_
  refine va_get (ci := 8) (v := .long t_bellSet) (C := RX9) (T := TX9) (N := 31) hx hb hts iX9 hown hK.1 hP 0 rfl rfl 7 (Nat.le_of_ble_eq_true rfl) k0 (fun _ h9 => h9) rfl dX9_goNow_6 ?_
  obtain ⟨y3, h4, hM⟩ := o_bd hM
  refine af_v (ws2 := (w_Mo_goNow cI cJ cS q_t q_t_kindOf q_t_comes q_t_wants q_t_runs q_t_readKind q_t_readComes q_t_readWants q_t_queueNow q_t_servedAt q_t_comesWas q_t_readingOf q_t_readingAt q_t_sheetSize q_t_sheetLane q_t_sheet q_t_hands t_fault t_persons t_law t_bellSet t_readAt t_readLaw t_readMany y3.1 y3.2.1 y3.2.2.1 t_readings t_whichMany t_whichOne t_whichTwo t_traceNow t_kindOf t_comes t_wants t_runs y3.2.2.2.1 y3.2.2.2.2)) (va_runV (As := [.int y1, .long t_bellSet]) (rest := []) ⟨hx, hb, hml, hown, hts⟩ (c_Mo_goDay l D cI cJ cS q_t q_t_kindOf q_t_comes q_t_wants q_t_runs q_t_readKind q_t_readComes q_t_readWants q_t_queueNow q_t_servedAt q_t_comesWas q_t_readingOf q_t_readingAt q_t_sheetSize q_t_sheetLane q_t_sheet q_t_hands t_fault t_persons t_law t_bellSet t_readAt t_readLaw t_readMany t_queueMany t_servedNow t_doneAt t_readings t_whichMany t_whichOne t_whichTwo t_traceNow t_kindOf t_comes t_wants t_runs t_queueNow t_servedAt y1 t_bellSet y3 h4 _) (cwV 2 hts gX9_goNow_X9_goDay rfl rfl rfl (by decide +kernel) ⟨(Nat.le_of_ble_eq_true rfl), (Nat.le_of_ble_eq_true rfl)⟩) (pre_V hK hP hD [0, 1, 2, 3, 4, 5, 6] rfl rfl rfl rfl) rfl rfl hl.1 rfl (lv_room (Nat.le_of_ble_eq_true rfl)) dX9_goNow_9 ⟨Nat.zero_le _, Nat.zero_le _⟩) hP hD hS hA [0, 1, 2, 3, 4, 5, 6] [] [0, 1, 2, 3, 4, 5, 6] rfl rfl rfl (by decide) rfl rfl (fun H locs hP hD hS => ?_)
  have hM := (Option.some.inj hM)
  subst hM
  exact rt_v hx hb hr hlocks hP hD hS dX9_goNow_12
/-! ===== TurnQueueModel.served ===== -/
abbrev w_Mo_served (cI cJ cS : ClassId) (q_t : Nat) (q_t_kindOf : Nat) (q_t_comes : Nat) (q_t_wants : Nat) (q_t_runs : Nat) (q_t_readKind : Nat) (q_t_readComes : Nat) (q_t_readWants : Nat) (q_t_queueNow : Nat) (q_t_servedAt : Nat) (q_t_comesWas : Nat) (q_t_readingOf : Nat) (q_t_readingAt : Nat) (q_t_sheetSize : Nat) (q_t_sheetLane : Nat) (q_t_sheet : Nat) (q_t_hands : Nat) (t_fault : Int32) (t_persons : Int32) (t_law : Int32) (t_bellSet : Int64) (t_readAt : Int32) (t_readLaw : Int32) (t_readMany : Int32) (t_queueMany : Int32) (t_servedNow : Int32) (t_doneAt : Int32) (t_readings : Int32) (t_whichMany : Int32) (t_whichOne : Int32) (t_whichTwo : Int32) (t_traceNow : Int32) (t_kindOf : Nat → Int32) (t_comes : Nat → Int32) (t_wants : Nat → Int32) (t_runs : Nat → Int32) (t_queueNow : Nat → Int32) (t_servedAt : Nat → Int32) : va_W := [(q_t, .inr (8, [.int t_fault, .int t_persons, .int t_law, .ref q_t_kindOf, .ref q_t_comes, .ref q_t_wants, .ref q_t_runs, .long t_bellSet, .int t_readAt, .int t_readLaw, .int t_readMany, .ref q_t_readKind, .ref q_t_readComes, .ref q_t_readWants, .ref q_t_queueNow, .int t_queueMany, .int t_servedNow, .int t_doneAt, .ref q_t_servedAt, .ref q_t_comesWas, .int t_readings, .ref q_t_readingOf, .ref q_t_readingAt, .int t_whichMany, .int t_whichOne, .int t_whichTwo, .ref q_t_sheetSize, .ref q_t_sheetLane, .ref q_t_sheet, .ref q_t_hands, .int t_traceNow])), (q_t_kindOf, ar cI 7 t_kindOf), (q_t_comes, ar cI 7 t_comes), (q_t_wants, ar cI 7 t_wants), (q_t_runs, ar cI 7 t_runs), (q_t_queueNow, ar cI 7 t_queueNow), (q_t_servedAt, ar cI 7 t_servedAt)]
abbrev rm_Mo_served : Room := { frames := 5, cells := 0, slots := 0, locals := 114 }
noncomputable def Mo_served (p_p : Int32) (t_persons : Int32) (t_law : Int32) (t_bellSet : Int64) (t_kindOf : Nat → Int32) (t_comes : Nat → Int32) (t_wants : Nat → Int32) (t_runs : Nat → Int32) (t_queueMany : Int32) (t_servedNow : Int32) (t_doneAt : Int32) (t_queueNow : Nat → Int32) (t_servedAt : Nat → Int32) : Option (Int32 × Int32 × Int32 × Int32 × (Nat → Int32) × (Nat → Int32)) :=
  (Mo_noPerson p_p t_persons).bind fun y1 =>
  if y1 = 0 then
    (Mo_goNow t_persons t_law t_bellSet t_kindOf t_comes t_wants t_runs t_queueMany t_servedNow t_doneAt t_queueNow t_servedAt).bind fun y4 =>
    if ck p_p 7 = true then
      some (y4.2.2.2.2 p_p.toNatClampNeg, y4.1, y4.2.1, y4.2.2.1, y4.2.2.2.1, y4.2.2.2.2)
    else none
  else
    some ((-1), t_queueMany, t_servedNow, t_doneAt, t_queueNow, t_servedAt)
set_option maxRecDepth 100000 in
set_option maxHeartbeats 4000000 in
theorem c_Mo_served (l : Launch) (D : va_G) (cI cJ cS : ClassId) (q_t q_t_kindOf q_t_comes q_t_wants q_t_runs q_t_readKind q_t_readComes q_t_readWants q_t_queueNow q_t_servedAt q_t_comesWas q_t_readingOf q_t_readingAt q_t_sheetSize q_t_sheetLane q_t_sheet q_t_hands : Nat) (t_fault : Int32) (t_persons : Int32) (t_law : Int32) (t_bellSet : Int64) (t_readAt : Int32) (t_readLaw : Int32) (t_readMany : Int32) (t_queueMany : Int32) (t_servedNow : Int32) (t_doneAt : Int32) (t_readings : Int32) (t_whichMany : Int32) (t_whichOne : Int32) (t_whichTwo : Int32) (t_traceNow : Int32) (t_kindOf : Nat → Int32) (t_comes : Nat → Int32) (t_wants : Nat → Int32) (t_runs : Nat → Int32) (t_queueNow : Nat → Int32) (t_servedAt : Nat → Int32) (p_p : Int32) (o : Int32 × Int32 × Int32 × Int32 × (Nat → Int32) × (Nat → Int32)) (hM : Mo_served p_p t_persons t_law t_bellSet t_kindOf t_comes t_wants t_runs t_queueMany t_servedNow t_doneAt t_queueNow t_servedAt = some o) : Ci l yX9_served wsX9_served rm_Mo_served D cI cJ cS [.ref q_t, .int p_p] (w_Mo_served cI cJ cS q_t q_t_kindOf q_t_comes q_t_wants q_t_runs q_t_readKind q_t_readComes q_t_readWants q_t_queueNow q_t_servedAt q_t_comesWas q_t_readingOf q_t_readingAt q_t_sheetSize q_t_sheetLane q_t_sheet q_t_hands t_fault t_persons t_law t_bellSet t_readAt t_readLaw t_readMany t_queueMany t_servedNow t_doneAt t_readings t_whichMany t_whichOne t_whichTwo t_traceNow t_kindOf t_comes t_wants t_runs t_queueNow t_servedAt) (w_Mo_served cI cJ cS q_t q_t_kindOf q_t_comes q_t_wants q_t_runs q_t_readKind q_t_readComes q_t_readWants q_t_queueNow q_t_servedAt q_t_comesWas q_t_readingOf q_t_readingAt q_t_sheetSize q_t_sheetLane q_t_sheet q_t_hands t_fault t_persons t_law t_bellSet t_readAt t_readLaw t_readMany o.2.1 o.2.2.1 o.2.2.2.1 t_readings t_whichMany t_whichOne t_whichTwo t_traceNow t_kindOf t_comes t_wants t_runs o.2.2.2.2.1 o.2.2.2.2.2) o.1 := by
  refine Ci.of (cc := cX9_served) (maxL := 2) (ret := (some .int)) (by decide) rfl (Nat.le_of_ble_eq_true rfl) ?_
  intro p e s m args below meth c A ls hE
  obtain ⟨hx, hb, hr, hml, hown, hts, hlocks, hK, hA, hP, hD, hS, hl⟩ := hE
  have hown : s.vm.findClass RX9 = some m.cls := hown
  have hl : lv_has ls 2 [(0, .ref q_t), (1, .int p_p)] := hl
  have iX9 : ∀ w ∈ u_ws RX9 TX9 31, w ∈ wsX9_served := by decide +kernel
  have k0 := hts (.fieldLink RX9 34 "TurnQueueModel" "servedAt" "[I") (by decide +kernel)
  unfold Mo_served at hM
  refine lv_aload_n hx hb dX9_served_0 rfl (lv_at hl 0 rfl) ?_
  refine lv_iload_n hx hb dX9_served_1 rfl (lv_at hl 1 rfl) ?_
  obtain ⟨y1, h2, hM⟩ := o_bd hM
  refine af_i (ws2 := (w_Mo_served cI cJ cS q_t q_t_kindOf q_t_comes q_t_wants q_t_runs q_t_readKind q_t_readComes q_t_readWants q_t_queueNow q_t_servedAt q_t_comesWas q_t_readingOf q_t_readingAt q_t_sheetSize q_t_sheetLane q_t_sheet q_t_hands t_fault t_persons t_law t_bellSet t_readAt t_readLaw t_readMany t_queueMany t_servedNow t_doneAt t_readings t_whichMany t_whichOne t_whichTwo t_traceNow t_kindOf t_comes t_wants t_runs t_queueNow t_servedAt)) (va_runV (As := [.int p_p]) (rest := []) ⟨hx, hb, hml, hown, hts⟩ (c_Mo_noPerson l D cI cJ cS q_t q_t_kindOf q_t_comes q_t_wants q_t_runs q_t_readKind q_t_readComes q_t_readWants q_t_queueNow q_t_servedAt q_t_comesWas q_t_readingOf q_t_readingAt q_t_sheetSize q_t_sheetLane q_t_sheet q_t_hands t_fault t_persons t_law t_bellSet t_readAt t_readLaw t_readMany t_queueMany t_servedNow t_doneAt t_readings t_whichMany t_whichOne t_whichTwo t_traceNow p_p y1 h2 _) (cwV 1 hts gX9_served_X9_noPerson rfl rfl rfl (by decide +kernel) ⟨(Nat.le_of_ble_eq_true rfl), (Nat.le_of_ble_eq_true rfl)⟩) (pre_V hK hP hD [0] rfl rfl rfl rfl) rfl rfl hl.1 rfl (lv_room (Nat.le_of_ble_eq_true rfl)) dX9_served_2 ⟨Nat.zero_le _, Nat.zero_le _⟩) hP hD hS hA [0] [1, 2, 3, 4, 5, 6] [6, 0, 1, 2, 3, 4, 5] rfl rfl rfl (by decide) rfl rfl (fun H locs hP hD hS => ?_)
  refine lv_if_eq (tgt := 10) hx hb dX9_served_5 (by decide) (fun c3 => ?_) (fun c3 => ?_)
  · have hM := (o_if hM).1 c3
    refine lv_aload_n hx hb dX9_served_10 rfl (lv_at hl 0 rfl) ?_
    obtain ⟨y4, h5, hM⟩ := o_bd hM
    refine af_v (ws2 := (w_Mo_served cI cJ cS q_t q_t_kindOf q_t_comes q_t_wants q_t_runs q_t_readKind q_t_readComes q_t_readWants q_t_queueNow q_t_servedAt q_t_comesWas q_t_readingOf q_t_readingAt q_t_sheetSize q_t_sheetLane q_t_sheet q_t_hands t_fault t_persons t_law t_bellSet t_readAt t_readLaw t_readMany y4.1 y4.2.1 y4.2.2.1 t_readings t_whichMany t_whichOne t_whichTwo t_traceNow t_kindOf t_comes t_wants t_runs y4.2.2.2.1 y4.2.2.2.2)) (va_runV (As := []) (rest := []) ⟨hx, hb, hml, hown, hts⟩ (c_Mo_goNow l D cI cJ cS q_t q_t_kindOf q_t_comes q_t_wants q_t_runs q_t_readKind q_t_readComes q_t_readWants q_t_queueNow q_t_servedAt q_t_comesWas q_t_readingOf q_t_readingAt q_t_sheetSize q_t_sheetLane q_t_sheet q_t_hands t_fault t_persons t_law t_bellSet t_readAt t_readLaw t_readMany t_queueMany t_servedNow t_doneAt t_readings t_whichMany t_whichOne t_whichTwo t_traceNow t_kindOf t_comes t_wants t_runs t_queueNow t_servedAt y4 h5 _) (cwV 0 hts gX9_served_X9_goNow rfl rfl rfl (by decide +kernel) ⟨(Nat.le_of_ble_eq_true rfl), (Nat.le_of_ble_eq_true rfl)⟩) (pre_V hK hP hD [0, 1, 2, 3, 4, 5, 6] rfl rfl rfl rfl) rfl rfl hl.1 rfl (lv_room (Nat.le_of_ble_eq_true rfl)) dX9_served_11 ⟨Nat.zero_le _, Nat.zero_le _⟩) hP hD hS hA [0, 1, 2, 3, 4, 5, 6] [] [0, 1, 2, 3, 4, 5, 6] rfl rfl rfl (by decide) rfl rfl (fun H locs hP hD hS => ?_)
    refine lv_aload_n hx hb dX9_served_14 rfl (lv_at hl 0 rfl) ?_
    refine va_get (ci := 8) (v := .ref q_t_servedAt) (C := RX9) (T := TX9) (N := 31) hx hb hts iX9 hown hK.1 hP 0 rfl rfl 18 (Nat.le_of_ble_eq_true rfl) k0 (fun _ h9 => h9) rfl dX9_served_15 ?_
    refine lv_iload_n hx hb dX9_served_18 rfl (lv_at hl 1 rfl) ?_
    obtain ⟨h6, hM⟩ := o_ck hM
    refine va_iald hx hb hK.1 hP 6 0 rfl rfl h6 dX9_served_19 ?_
    have hM := (Option.some.inj hM)
    subst hM
    exact rt_i hx hb hr hlocks hP hD hS dX9_served_20
  · have hM := (o_if hM).2 c3
    refine lv_iconst (v := (-1)) hx hb dX9_served_8 (by decide) ?_
    have hM := (Option.some.inj hM)
    subst hM
    exact rt_i hx hb hr hlocks hP hD hS dX9_served_9
/-! ===== TurnQueueModel.queue ===== -/
abbrev w_Mo_queue (cI cJ cS : ClassId) (q_t : Nat) (q_t_kindOf : Nat) (q_t_comes : Nat) (q_t_wants : Nat) (q_t_runs : Nat) (q_t_readKind : Nat) (q_t_readComes : Nat) (q_t_readWants : Nat) (q_t_queueNow : Nat) (q_t_servedAt : Nat) (q_t_comesWas : Nat) (q_t_readingOf : Nat) (q_t_readingAt : Nat) (q_t_sheetSize : Nat) (q_t_sheetLane : Nat) (q_t_sheet : Nat) (q_t_hands : Nat) (t_fault : Int32) (t_persons : Int32) (t_law : Int32) (t_bellSet : Int64) (t_readAt : Int32) (t_readLaw : Int32) (t_readMany : Int32) (t_queueMany : Int32) (t_servedNow : Int32) (t_doneAt : Int32) (t_readings : Int32) (t_whichMany : Int32) (t_whichOne : Int32) (t_whichTwo : Int32) (t_traceNow : Int32) (t_kindOf : Nat → Int32) (t_comes : Nat → Int32) (t_wants : Nat → Int32) (t_runs : Nat → Int32) (t_queueNow : Nat → Int32) (t_servedAt : Nat → Int32) : va_W := [(q_t, .inr (8, [.int t_fault, .int t_persons, .int t_law, .ref q_t_kindOf, .ref q_t_comes, .ref q_t_wants, .ref q_t_runs, .long t_bellSet, .int t_readAt, .int t_readLaw, .int t_readMany, .ref q_t_readKind, .ref q_t_readComes, .ref q_t_readWants, .ref q_t_queueNow, .int t_queueMany, .int t_servedNow, .int t_doneAt, .ref q_t_servedAt, .ref q_t_comesWas, .int t_readings, .ref q_t_readingOf, .ref q_t_readingAt, .int t_whichMany, .int t_whichOne, .int t_whichTwo, .ref q_t_sheetSize, .ref q_t_sheetLane, .ref q_t_sheet, .ref q_t_hands, .int t_traceNow])), (q_t_kindOf, ar cI 7 t_kindOf), (q_t_comes, ar cI 7 t_comes), (q_t_wants, ar cI 7 t_wants), (q_t_runs, ar cI 7 t_runs), (q_t_queueNow, ar cI 7 t_queueNow), (q_t_servedAt, ar cI 7 t_servedAt)]
abbrev rm_Mo_queue : Room := { frames := 3, cells := 0, slots := 0, locals := 70 }
noncomputable def Mo_queue_j49 (p_minute : Int32) (p_k : Int32) (t_persons : Int32) (t_law : Int32) (t_bellSet : Int64) (t_kindOf : Nat → Int32) (t_comes : Nat → Int32) (t_wants : Nat → Int32) (t_runs : Nat → Int32) (t_queueMany : Int32) (t_servedNow : Int32) (t_doneAt : Int32) (t_queueNow : Nat → Int32) (t_servedAt : Nat → Int32) : Option (Int32 × Int32 × Int32 × Int32 × (Nat → Int32) × (Nat → Int32)) :=
  if 0 ≤ p_k then
    if t_queueMany ≤ p_k then
      some ((-9), t_queueMany, t_servedNow, t_doneAt, t_queueNow, t_servedAt)
    else
      if ck p_k 7 = true then
        some (t_queueNow p_k.toNatClampNeg, t_queueMany, t_servedNow, t_doneAt, t_queueNow, t_servedAt)
      else none
  else
    some (t_servedNow, t_queueMany, t_servedNow, t_doneAt, t_queueNow, t_servedAt)
noncomputable def Mo_queue_b25 (p_minute : Int32) (p_k : Int32) (t_persons : Int32) (t_law : Int32) (t_bellSet : Int64) (t_kindOf : Nat → Int32) (t_comes : Nat → Int32) (t_wants : Nat → Int32) (t_runs : Nat → Int32) (x3 : Int32) (t_queueMany : Int32) (t_servedNow : Int32) (t_doneAt : Int32) (t_queueNow : Nat → Int32) (t_servedAt : Nat → Int32) : Option ((Int32 × Int32 × Int32 × Int32 × (Nat → Int32) × (Nat → Int32)) ⊕ (Int32 × Int32 × Int32 × Int32 × (Nat → Int32) × (Nat → Int32))) :=
  if p_minute < x3 then
    ex (Mo_queue_j49 p_minute p_k t_persons t_law t_bellSet t_kindOf t_comes t_wants t_runs t_queueMany t_servedNow t_doneAt t_queueNow t_servedAt)
  else
    (Mo_all t_persons).bind fun y11 =>
    (Mo_goMinute x3 y11 t_bellSet t_persons t_law t_kindOf t_comes t_wants t_runs t_queueMany t_servedNow t_doneAt t_queueNow t_servedAt).bind fun y13 =>
    lt (x3 + 1) fun y15 =>
    some (.inl (y15, y13.1, y13.2.1, y13.2.2.1, y13.2.2.2.1, y13.2.2.2.2))
noncomputable def Mo_queue_s25 (p_minute : Int32) (p_k : Int32) (t_persons : Int32) (t_law : Int32) (t_bellSet : Int64) (t_kindOf : Nat → Int32) (t_comes : Nat → Int32) (t_wants : Nat → Int32) (t_runs : Nat → Int32) : (Int32 × Int32 × Int32 × Int32 × (Nat → Int32) × (Nat → Int32)) → Option ((Int32 × Int32 × Int32 × Int32 × (Nat → Int32) × (Nat → Int32)) ⊕ (Int32 × Int32 × Int32 × Int32 × (Nat → Int32) × (Nat → Int32))) := fun x => Mo_queue_b25 p_minute p_k t_persons t_law t_bellSet t_kindOf t_comes t_wants t_runs x.1 x.2.1 x.2.2.1 x.2.2.2.1 x.2.2.2.2.1 x.2.2.2.2.2
noncomputable def Mo_queue_l25 (p_minute : Int32) (p_k : Int32) (t_persons : Int32) (t_law : Int32) (t_bellSet : Int64) (t_kindOf : Nat → Int32) (t_comes : Nat → Int32) (t_wants : Nat → Int32) (t_runs : Nat → Int32) (x3 : Int32) (t_queueMany : Int32) (t_servedNow : Int32) (t_doneAt : Int32) (t_queueNow : Nat → Int32) (t_servedAt : Nat → Int32) : Option (Int32 × Int32 × Int32 × Int32 × (Nat → Int32) × (Nat → Int32)) := fin (Mo_queue_s25 p_minute p_k t_persons t_law t_bellSet t_kindOf t_comes t_wants t_runs) (x3, t_queueMany, t_servedNow, t_doneAt, t_queueNow, t_servedAt)
noncomputable def Mo_queue (p_minute : Int32) (p_k : Int32) (t_persons : Int32) (t_law : Int32) (t_bellSet : Int64) (t_kindOf : Nat → Int32) (t_comes : Nat → Int32) (t_wants : Nat → Int32) (t_runs : Nat → Int32) (t_queueMany : Int32) (t_servedNow : Int32) (t_doneAt : Int32) (t_queueNow : Nat → Int32) (t_servedAt : Nat → Int32) : Option (Int32 × Int32 × Int32 × Int32 × (Nat → Int32) × (Nat → Int32)) :=
  (Mo_in p_minute.toInt64 0 199).bind fun y1 =>
  if y1 = 0 then
    some ((-1), t_queueMany, t_servedNow, t_doneAt, t_queueNow, t_servedAt)
  else
    if (-1) ≤ p_k then
      (Mo_begin t_queueMany t_servedNow t_servedAt).bind fun y5 =>
      Mo_queue_l25 p_minute p_k t_persons t_law t_bellSet t_kindOf t_comes t_wants t_runs 0 y5.1 y5.2.1 t_doneAt t_queueNow y5.2.2
    else
      some ((-1), t_queueMany, t_servedNow, t_doneAt, t_queueNow, t_servedAt)
theorem Mo_queue_l25_eq (p_minute : Int32) (p_k : Int32) (t_persons : Int32) (t_law : Int32) (t_bellSet : Int64) (t_kindOf : Nat → Int32) (t_comes : Nat → Int32) (t_wants : Nat → Int32) (t_runs : Nat → Int32) (x3 : Int32) (t_queueMany : Int32) (t_servedNow : Int32) (t_doneAt : Int32) (t_queueNow : Nat → Int32) (t_servedAt : Nat → Int32) : Mo_queue_l25 p_minute p_k t_persons t_law t_bellSet t_kindOf t_comes t_wants t_runs x3 t_queueMany t_servedNow t_doneAt t_queueNow t_servedAt = (Mo_queue_b25 p_minute p_k t_persons t_law t_bellSet t_kindOf t_comes t_wants t_runs x3 t_queueMany t_servedNow t_doneAt t_queueNow t_servedAt).bind (sg (fin (Mo_queue_s25 p_minute p_k t_persons t_law t_bellSet t_kindOf t_comes t_wants t_runs))) := by
  unfold Mo_queue_l25
  exact fin_eq _ _
theorem Mo_queue_l25_fd (p_minute : Int32) (p_k : Int32) (t_persons : Int32) (t_law : Int32) (t_bellSet : Int64) (t_kindOf : Nat → Int32) (t_comes : Nat → Int32) (t_wants : Nat → Int32) (t_runs : Nat → Int32) (x3 : Int32) (t_queueMany : Int32) (t_servedNow : Int32) (t_doneAt : Int32) (t_queueNow : Nat → Int32) (t_servedAt : Nat → Int32) : fin (Mo_queue_s25 p_minute p_k t_persons t_law t_bellSet t_kindOf t_comes t_wants t_runs) (x3, t_queueMany, t_servedNow, t_doneAt, t_queueNow, t_servedAt) = Mo_queue_l25 p_minute p_k t_persons t_law t_bellSet t_kindOf t_comes t_wants t_runs x3 t_queueMany t_servedNow t_doneAt t_queueNow t_servedAt := rfl
set_option maxRecDepth 100000 in
set_option maxHeartbeats 4000000 in
theorem c_Mo_queue (l : Launch) (D : va_G) (cI cJ cS : ClassId) (q_t q_t_kindOf q_t_comes q_t_wants q_t_runs q_t_readKind q_t_readComes q_t_readWants q_t_queueNow q_t_servedAt q_t_comesWas q_t_readingOf q_t_readingAt q_t_sheetSize q_t_sheetLane q_t_sheet q_t_hands : Nat) (t_fault : Int32) (t_persons : Int32) (t_law : Int32) (t_bellSet : Int64) (t_readAt : Int32) (t_readLaw : Int32) (t_readMany : Int32) (t_queueMany : Int32) (t_servedNow : Int32) (t_doneAt : Int32) (t_readings : Int32) (t_whichMany : Int32) (t_whichOne : Int32) (t_whichTwo : Int32) (t_traceNow : Int32) (t_kindOf : Nat → Int32) (t_comes : Nat → Int32) (t_wants : Nat → Int32) (t_runs : Nat → Int32) (t_queueNow : Nat → Int32) (t_servedAt : Nat → Int32) (p_minute : Int32) (p_k : Int32) (o : Int32 × Int32 × Int32 × Int32 × (Nat → Int32) × (Nat → Int32)) (hM : Mo_queue p_minute p_k t_persons t_law t_bellSet t_kindOf t_comes t_wants t_runs t_queueMany t_servedNow t_doneAt t_queueNow t_servedAt = some o) : Ci l yX9_queue wsX9_queue rm_Mo_queue D cI cJ cS [.ref q_t, .int p_minute, .int p_k] (w_Mo_queue cI cJ cS q_t q_t_kindOf q_t_comes q_t_wants q_t_runs q_t_readKind q_t_readComes q_t_readWants q_t_queueNow q_t_servedAt q_t_comesWas q_t_readingOf q_t_readingAt q_t_sheetSize q_t_sheetLane q_t_sheet q_t_hands t_fault t_persons t_law t_bellSet t_readAt t_readLaw t_readMany t_queueMany t_servedNow t_doneAt t_readings t_whichMany t_whichOne t_whichTwo t_traceNow t_kindOf t_comes t_wants t_runs t_queueNow t_servedAt) (w_Mo_queue cI cJ cS q_t q_t_kindOf q_t_comes q_t_wants q_t_runs q_t_readKind q_t_readComes q_t_readWants q_t_queueNow q_t_servedAt q_t_comesWas q_t_readingOf q_t_readingAt q_t_sheetSize q_t_sheetLane q_t_sheet q_t_hands t_fault t_persons t_law t_bellSet t_readAt t_readLaw t_readMany o.2.1 o.2.2.1 o.2.2.2.1 t_readings t_whichMany t_whichOne t_whichTwo t_traceNow t_kindOf t_comes t_wants t_runs o.2.2.2.2.1 o.2.2.2.2.2) o.1 := by
  refine Ci.of (cc := cX9_queue) (maxL := 4) (ret := (some .int)) (by decide) rfl (Nat.le_of_ble_eq_true rfl) ?_
  intro p e s m args below meth c A ls hE
  obtain ⟨hx, hb, hr, hml, hown, hts, hlocks, hK, hA, hP, hD, hS, hl⟩ := hE
  have hown : s.vm.findClass RX9 = some m.cls := hown
  have hl : lv_has ls 4 [(0, .ref q_t), (1, .int p_minute), (2, .int p_k)] := hl
  have iX9 : ∀ w ∈ u_ws RX9 TX9 31, w ∈ wsX9_queue := by decide +kernel
  have k0 := hts (.constantLong RX9 187 (199)) (by decide +kernel)
  have k1 := hts (.fieldLink RX9 140 "TurnQueueModel" "queueMany" "I") (by decide +kernel)
  have k2 := hts (.fieldLink RX9 31 "TurnQueueModel" "queueNow" "[I") (by decide +kernel)
  have k3 := hts (.fieldLink RX9 143 "TurnQueueModel" "servedNow" "I") (by decide +kernel)
  have k4 := hts (.fieldLink RX9 121 "TurnQueueModel" "bellSet" "J") (by decide +kernel)
  have J49 : ∀ (t_queueMany : Int32) (t_servedNow : Int32) (t_doneAt : Int32) (t_queueNow : Nat → Int32) (t_servedAt : Nat → Int32), Mo_queue_j49 p_minute p_k t_persons t_law t_bellSet t_kindOf t_comes t_wants t_runs t_queueMany t_servedNow t_doneAt t_queueNow t_servedAt = some o → ∀ (H : Heap) (locs : List Loc), va_P D vwCl (w_Mo_queue cI cJ cS q_t q_t_kindOf q_t_comes q_t_wants q_t_runs q_t_readKind q_t_readComes q_t_readWants q_t_queueNow q_t_servedAt q_t_comesWas q_t_readingOf q_t_readingAt q_t_sheetSize q_t_sheetLane q_t_sheet q_t_hands t_fault t_persons t_law t_bellSet t_readAt t_readLaw t_readMany t_queueMany t_servedNow t_doneAt t_readings t_whichMany t_whichOne t_whichTwo t_traceNow t_kindOf t_comes t_wants t_runs t_queueNow t_servedAt) H → va_D A (w_Mo_queue cI cJ cS q_t q_t_kindOf q_t_comes q_t_wants q_t_runs q_t_readKind q_t_readComes q_t_readWants q_t_queueNow q_t_servedAt q_t_comesWas q_t_readingOf q_t_readingAt q_t_sheetSize q_t_sheetLane q_t_sheet q_t_hands t_fault t_persons t_law t_bellSet t_readAt t_readLaw t_readMany t_queueMany t_servedNow t_doneAt t_readings t_whichMany t_whichOne t_whichTwo t_traceNow t_kindOf t_comes t_wants t_runs t_queueNow t_servedAt) → va_S A s.heap H locs → ∀ ls : Array Slot, lv_has ls 4 [(0, .ref q_t), (2, .int p_k)] → W p l e (headSpec wsX9_queue rm_Mo_queue).room s m args below meth c H locs 0 0 (MQ below (CQi D (w_Mo_queue cI cJ cS q_t q_t_kindOf q_t_comes q_t_wants q_t_runs q_t_readKind q_t_readComes q_t_readWants q_t_queueNow q_t_servedAt q_t_comesWas q_t_readingOf q_t_readingAt q_t_sheetSize q_t_sheetLane q_t_sheet q_t_hands t_fault t_persons t_law t_bellSet t_readAt t_readLaw t_readMany o.2.1 o.2.2.1 o.2.2.2.1 t_readings t_whichMany t_whichOne t_whichTwo t_traceNow t_kindOf t_comes t_wants t_runs o.2.2.2.2.1 o.2.2.2.2.2) A o.1) args s 0 0 A) (F0 m 49 ls []) := by
    intro t_queueMany t_servedNow t_doneAt t_queueNow t_servedAt hM H locs hP hD hS ls hl
    unfold Mo_queue_j49 at hM
    refine lv_iload_n hx hb dX9_queue_49 rfl (lv_at hl 1 rfl) ?_
    refine lv_if_ge (tgt := 60) hx hb dX9_queue_50 (by decide) (fun c8 => ?_) (fun c8 => ?_)
    · have hM := (o_if hM).1 c8
      refine lv_iload_n hx hb dX9_queue_60 rfl (lv_at hl 1 rfl) ?_
      refine lv_aload_n hx hb dX9_queue_61 rfl (lv_at hl 0 rfl) ?_
      refine va_get (ci := 8) (v := .int t_queueMany) (C := RX9) (T := TX9) (N := 31) hx hb hts iX9 hown hK.1 hP 0 rfl rfl 15 (Nat.le_of_ble_eq_true rfl) k1 (fun _ h9 => h9) rfl dX9_queue_62 ?_
      refine lv_icmp_ge (tgt := 77) hx hb dX9_queue_65 (by decide) (fun c9 => ?_) (fun c9 => ?_)
      · have hM := (o_if hM).1 c9
        refine lv_bipush (v := (-9)) hx hb dX9_queue_77 (by decide) ?_
        have hM := (Option.some.inj hM)
        subst hM
        exact rt_i hx hb hr hlocks hP hD hS dX9_queue_79
      · have hM := (o_if hM).2 c9
        refine lv_aload_n hx hb dX9_queue_68 rfl (lv_at hl 0 rfl) ?_
        refine va_get (ci := 8) (v := .ref q_t_queueNow) (C := RX9) (T := TX9) (N := 31) hx hb hts iX9 hown hK.1 hP 0 rfl rfl 14 (Nat.le_of_ble_eq_true rfl) k2 (fun _ h9 => h9) rfl dX9_queue_69 ?_
        refine lv_iload_n hx hb dX9_queue_72 rfl (lv_at hl 1 rfl) ?_
        obtain ⟨h10, hM⟩ := o_ck hM
        refine va_iald hx hb hK.1 hP 5 0 rfl rfl h10 dX9_queue_73 ?_
        refine lv_goto (tgt := 79) hx hb dX9_queue_74 (by decide) ?_
        have hM := (Option.some.inj hM)
        subst hM
        exact rt_i hx hb hr hlocks hP hD hS dX9_queue_79
    · have hM := (o_if hM).2 c8
      refine lv_aload_n hx hb dX9_queue_53 rfl (lv_at hl 0 rfl) ?_
      refine va_get (ci := 8) (v := .int t_servedNow) (C := RX9) (T := TX9) (N := 31) hx hb hts iX9 hown hK.1 hP 0 rfl rfl 16 (Nat.le_of_ble_eq_true rfl) k3 (fun _ h9 => h9) rfl dX9_queue_54 ?_
      refine lv_goto (tgt := 79) hx hb dX9_queue_57 (by decide) ?_
      have hM := (Option.some.inj hM)
      subst hM
      exact rt_i hx hb hr hlocks hP hD hS dX9_queue_79
  have L25 : ∀ n : Nat, (∀ (x3 : Int32) (t_queueMany : Int32) (t_servedNow : Int32) (t_doneAt : Int32) (t_queueNow : Nat → Int32) (t_servedAt : Nat → Int32), itr (Mo_queue_s25 p_minute p_k t_persons t_law t_bellSet t_kindOf t_comes t_wants t_runs) n (x3, t_queueMany, t_servedNow, t_doneAt, t_queueNow, t_servedAt) = some o → ∀ (H : Heap) (locs : List Loc), va_P D vwCl (w_Mo_queue cI cJ cS q_t q_t_kindOf q_t_comes q_t_wants q_t_runs q_t_readKind q_t_readComes q_t_readWants q_t_queueNow q_t_servedAt q_t_comesWas q_t_readingOf q_t_readingAt q_t_sheetSize q_t_sheetLane q_t_sheet q_t_hands t_fault t_persons t_law t_bellSet t_readAt t_readLaw t_readMany t_queueMany t_servedNow t_doneAt t_readings t_whichMany t_whichOne t_whichTwo t_traceNow t_kindOf t_comes t_wants t_runs t_queueNow t_servedAt) H → va_D A (w_Mo_queue cI cJ cS q_t q_t_kindOf q_t_comes q_t_wants q_t_runs q_t_readKind q_t_readComes q_t_readWants q_t_queueNow q_t_servedAt q_t_comesWas q_t_readingOf q_t_readingAt q_t_sheetSize q_t_sheetLane q_t_sheet q_t_hands t_fault t_persons t_law t_bellSet t_readAt t_readLaw t_readMany t_queueMany t_servedNow t_doneAt t_readings t_whichMany t_whichOne t_whichTwo t_traceNow t_kindOf t_comes t_wants t_runs t_queueNow t_servedAt) → va_S A s.heap H locs → ∀ ls : Array Slot, lv_has ls 4 [(0, .ref q_t), (1, .int p_minute), (2, .int p_k), (3, .int x3)] → W p l e (headSpec wsX9_queue rm_Mo_queue).room s m args below meth c H locs 0 0 (MQ below (CQi D (w_Mo_queue cI cJ cS q_t q_t_kindOf q_t_comes q_t_wants q_t_runs q_t_readKind q_t_readComes q_t_readWants q_t_queueNow q_t_servedAt q_t_comesWas q_t_readingOf q_t_readingAt q_t_sheetSize q_t_sheetLane q_t_sheet q_t_hands t_fault t_persons t_law t_bellSet t_readAt t_readLaw t_readMany o.2.1 o.2.2.1 o.2.2.2.1 t_readings t_whichMany t_whichOne t_whichTwo t_traceNow t_kindOf t_comes t_wants t_runs o.2.2.2.2.1 o.2.2.2.2.2) A o.1) args s 0 0 A) (F0 m 25 ls [])) := by
    intro n
    induction n with
    | zero => exact fun _ _ _ _ _ _ hM => (itr_0 hM).elim
    | succ n ih =>
      intro x3 t_queueMany t_servedNow t_doneAt t_queueNow t_servedAt hM H locs hP hD hS ls hl
      have hM : (Mo_queue_b25 p_minute p_k t_persons t_law t_bellSet t_kindOf t_comes t_wants t_runs x3 t_queueMany t_servedNow t_doneAt t_queueNow t_servedAt).bind (sg (itr (Mo_queue_s25 p_minute p_k t_persons t_law t_bellSet t_kindOf t_comes t_wants t_runs) n)) = some o := hM
      unfold Mo_queue_b25 at hM
      refine lv_iload_n hx hb dX9_queue_25 rfl (lv_at hl 3 rfl) ?_
      refine lv_iload_n hx hb dX9_queue_26 rfl (lv_at hl 1 rfl) ?_
      refine lv_icmp_gt (tgt := 49) hx hb dX9_queue_27 (by decide) (fun c7 => ?_) (fun c7 => ?_)
      · have hM := (s_if hM).1 c7
        exact J49 t_queueMany t_servedNow t_doneAt t_queueNow t_servedAt (s_ex hM) _ _ hP hD hS _ (lv_sub hl [0, 2] rfl)
      · have hM := (s_if hM).2 c7
        refine lv_aload_n hx hb dX9_queue_30 rfl (lv_at hl 0 rfl) ?_
        refine lv_iload_n hx hb dX9_queue_31 rfl (lv_at hl 3 rfl) ?_
        refine lv_aload_n hx hb dX9_queue_32 rfl (lv_at hl 0 rfl) ?_
        obtain ⟨y11, h12, hM⟩ := s_bd hM
        refine af_i (ws2 := (w_Mo_queue cI cJ cS q_t q_t_kindOf q_t_comes q_t_wants q_t_runs q_t_readKind q_t_readComes q_t_readWants q_t_queueNow q_t_servedAt q_t_comesWas q_t_readingOf q_t_readingAt q_t_sheetSize q_t_sheetLane q_t_sheet q_t_hands t_fault t_persons t_law t_bellSet t_readAt t_readLaw t_readMany t_queueMany t_servedNow t_doneAt t_readings t_whichMany t_whichOne t_whichTwo t_traceNow t_kindOf t_comes t_wants t_runs t_queueNow t_servedAt)) (va_runV (As := []) (rest := [.int x3, .ref q_t]) ⟨hx, hb, hml, hown, hts⟩ (c_Mo_all l D cI cJ cS q_t q_t_kindOf q_t_comes q_t_wants q_t_runs q_t_readKind q_t_readComes q_t_readWants q_t_queueNow q_t_servedAt q_t_comesWas q_t_readingOf q_t_readingAt q_t_sheetSize q_t_sheetLane q_t_sheet q_t_hands t_fault t_persons t_law t_bellSet t_readAt t_readLaw t_readMany t_queueMany t_servedNow t_doneAt t_readings t_whichMany t_whichOne t_whichTwo t_traceNow y11 h12 _) (cwV 0 hts gX9_queue_X9_all rfl rfl rfl (by decide +kernel) ⟨(Nat.le_of_ble_eq_true rfl), (Nat.le_of_ble_eq_true rfl)⟩) (pre_V hK hP hD [0] rfl rfl rfl rfl) rfl rfl hl.1 rfl (lv_room (Nat.le_of_ble_eq_true rfl)) dX9_queue_33 ⟨Nat.zero_le _, Nat.zero_le _⟩) hP hD hS hA [0] [1, 2, 3, 4, 5, 6] [6, 0, 1, 2, 3, 4, 5] rfl rfl rfl (by decide) rfl rfl (fun H locs hP hD hS => ?_)
        refine lv_aload_n hx hb dX9_queue_36 rfl (lv_at hl 0 rfl) ?_
        refine va_get (ci := 8) (v := .long t_bellSet) (C := RX9) (T := TX9) (N := 31) hx hb hts iX9 hown hK.1 hP 0 rfl rfl 7 (Nat.le_of_ble_eq_true rfl) k4 (fun _ h9 => h9) rfl dX9_queue_37 ?_
        obtain ⟨y13, h14, hM⟩ := s_bd hM
        refine af_v (ws2 := (w_Mo_queue cI cJ cS q_t q_t_kindOf q_t_comes q_t_wants q_t_runs q_t_readKind q_t_readComes q_t_readWants q_t_queueNow q_t_servedAt q_t_comesWas q_t_readingOf q_t_readingAt q_t_sheetSize q_t_sheetLane q_t_sheet q_t_hands t_fault t_persons t_law t_bellSet t_readAt t_readLaw t_readMany y13.1 y13.2.1 y13.2.2.1 t_readings t_whichMany t_whichOne t_whichTwo t_traceNow t_kindOf t_comes t_wants t_runs y13.2.2.2.1 y13.2.2.2.2)) (va_runV (As := [.int x3, .int y11, .long t_bellSet]) (rest := []) ⟨hx, hb, hml, hown, hts⟩ (c_Mo_goMinute l D cI cJ cS q_t q_t_kindOf q_t_comes q_t_wants q_t_runs q_t_readKind q_t_readComes q_t_readWants q_t_queueNow q_t_servedAt q_t_comesWas q_t_readingOf q_t_readingAt q_t_sheetSize q_t_sheetLane q_t_sheet q_t_hands t_fault t_persons t_law t_bellSet t_readAt t_readLaw t_readMany t_queueMany t_servedNow t_doneAt t_readings t_whichMany t_whichOne t_whichTwo t_traceNow t_kindOf t_comes t_wants t_runs t_queueNow t_servedAt x3 y11 t_bellSet y13 h14 _) (cwV 3 hts gX9_queue_X9_goMinute rfl rfl rfl (by decide +kernel) ⟨(Nat.le_of_ble_eq_true rfl), (Nat.le_of_ble_eq_true rfl)⟩) (pre_V hK hP hD [0, 1, 2, 3, 4, 5, 6] rfl rfl rfl rfl) rfl rfl hl.1 rfl (lv_room (Nat.le_of_ble_eq_true rfl)) dX9_queue_40 ⟨Nat.zero_le _, Nat.zero_le _⟩) hP hD hS hA [0, 1, 2, 3, 4, 5, 6] [] [0, 1, 2, 3, 4, 5, 6] rfl rfl rfl (by decide) rfl rfl (fun H locs hP hD hS => ?_)
        obtain ⟨y15, ey15⟩ : ∃ y : Int32, y = x3 + 1 := ⟨_, rfl⟩
        have hM := s_lt hM y15 ey15
        refine lv_iinc (v := y15) (lv' := [(3, .int y15), (0, .ref q_t), (1, .int p_minute), (2, .int p_k)]) hx hb dX9_queue_43 hl (k := 3) rfl (by rw [ey15]; rfl) (Nat.le_of_ble_eq_true rfl) rfl (fun ls hl => ?_)
        refine lv_goto (tgt := 25) hx hb dX9_queue_46 (by decide) ?_
        exact ih y15 y13.1 y13.2.1 y13.2.2.1 y13.2.2.2.1 y13.2.2.2.2 (s_jp hM) _ _ hP hD hS _ (lv_sub hl [1, 2, 3, 0] rfl)
  have J25 : ∀ (x3 : Int32) (t_queueMany : Int32) (t_servedNow : Int32) (t_doneAt : Int32) (t_queueNow : Nat → Int32) (t_servedAt : Nat → Int32), Mo_queue_l25 p_minute p_k t_persons t_law t_bellSet t_kindOf t_comes t_wants t_runs x3 t_queueMany t_servedNow t_doneAt t_queueNow t_servedAt = some o → ∀ (H : Heap) (locs : List Loc), va_P D vwCl (w_Mo_queue cI cJ cS q_t q_t_kindOf q_t_comes q_t_wants q_t_runs q_t_readKind q_t_readComes q_t_readWants q_t_queueNow q_t_servedAt q_t_comesWas q_t_readingOf q_t_readingAt q_t_sheetSize q_t_sheetLane q_t_sheet q_t_hands t_fault t_persons t_law t_bellSet t_readAt t_readLaw t_readMany t_queueMany t_servedNow t_doneAt t_readings t_whichMany t_whichOne t_whichTwo t_traceNow t_kindOf t_comes t_wants t_runs t_queueNow t_servedAt) H → va_D A (w_Mo_queue cI cJ cS q_t q_t_kindOf q_t_comes q_t_wants q_t_runs q_t_readKind q_t_readComes q_t_readWants q_t_queueNow q_t_servedAt q_t_comesWas q_t_readingOf q_t_readingAt q_t_sheetSize q_t_sheetLane q_t_sheet q_t_hands t_fault t_persons t_law t_bellSet t_readAt t_readLaw t_readMany t_queueMany t_servedNow t_doneAt t_readings t_whichMany t_whichOne t_whichTwo t_traceNow t_kindOf t_comes t_wants t_runs t_queueNow t_servedAt) → va_S A s.heap H locs → ∀ ls : Array Slot, lv_has ls 4 [(0, .ref q_t), (1, .int p_minute), (2, .int p_k), (3, .int x3)] → W p l e (headSpec wsX9_queue rm_Mo_queue).room s m args below meth c H locs 0 0 (MQ below (CQi D (w_Mo_queue cI cJ cS q_t q_t_kindOf q_t_comes q_t_wants q_t_runs q_t_readKind q_t_readComes q_t_readWants q_t_queueNow q_t_servedAt q_t_comesWas q_t_readingOf q_t_readingAt q_t_sheetSize q_t_sheetLane q_t_sheet q_t_hands t_fault t_persons t_law t_bellSet t_readAt t_readLaw t_readMany o.2.1 o.2.2.1 o.2.2.2.1 t_readings t_whichMany t_whichOne t_whichTwo t_traceNow t_kindOf t_comes t_wants t_runs o.2.2.2.2.1 o.2.2.2.2.2) A o.1) args s 0 0 A) (F0 m 25 ls []) := by
    intro x3 t_queueMany t_servedNow t_doneAt t_queueNow t_servedAt hM
    unfold Mo_queue_l25 at hM
    obtain ⟨n0, hM⟩ := fin_some hM
    exact (L25 n0) x3 t_queueMany t_servedNow t_doneAt t_queueNow t_servedAt hM
  unfold Mo_queue at hM
  refine lv_iload_n hx hb dX9_queue_0 rfl (lv_at hl 1 rfl) ?_
  refine lv_i2l (v := p_minute.toInt64) hx hb dX9_queue_1 rfl ?_
  refine lv_lconst (v := 0) hx hb dX9_queue_2 (by decide) ?_
  refine lv_ldc2 (v := 199) hx hb hown k0 dX9_queue_3 ?_
  obtain ⟨y1, h2, hM⟩ := o_bd hM
  refine af_i (ws2 := (w_Mo_queue cI cJ cS q_t q_t_kindOf q_t_comes q_t_wants q_t_runs q_t_readKind q_t_readComes q_t_readWants q_t_queueNow q_t_servedAt q_t_comesWas q_t_readingOf q_t_readingAt q_t_sheetSize q_t_sheetLane q_t_sheet q_t_hands t_fault t_persons t_law t_bellSet t_readAt t_readLaw t_readMany t_queueMany t_servedNow t_doneAt t_readings t_whichMany t_whichOne t_whichTwo t_traceNow t_kindOf t_comes t_wants t_runs t_queueNow t_servedAt)) (va_runS (As := [.long p_minute.toInt64, .long 0, .long 199]) (rest := []) ⟨hx, hb, hml, hown, hts⟩ (c_Mo_in l D cI cJ cS p_minute.toInt64 0 199 y1 h2 _) (va_cwS 3 hts gX9_queue_X9_in rfl rfl rfl (by decide +kernel) ⟨(Nat.le_of_ble_eq_true rfl), (Nat.le_of_ble_eq_true rfl)⟩) (pre_S hK hP hD [] rfl rfl) rfl rfl hl.1 rfl (lv_room (Nat.le_of_ble_eq_true rfl)) dX9_queue_6 ⟨Nat.zero_le _, Nat.zero_le _⟩) hP hD hS hA [] [0, 1, 2, 3, 4, 5, 6] [0, 1, 2, 3, 4, 5, 6] rfl rfl rfl (by decide) rfl rfl (fun H locs hP hD hS => ?_)
  refine lv_if_eq (tgt := 17) hx hb dX9_queue_9 (by decide) (fun c3 => ?_) (fun c3 => ?_)
  · have hM := (o_if hM).1 c3
    refine lv_iconst (v := (-1)) hx hb dX9_queue_17 (by decide) ?_
    have hM := (Option.some.inj hM)
    subst hM
    exact rt_i hx hb hr hlocks hP hD hS dX9_queue_18
  · have hM := (o_if hM).2 c3
    refine lv_iload_n hx hb dX9_queue_12 rfl (lv_at hl 2 rfl) ?_
    refine lv_iconst (v := (-1)) hx hb dX9_queue_13 (by decide) ?_
    refine lv_icmp_ge (tgt := 19) hx hb dX9_queue_14 (by decide) (fun c4 => ?_) (fun c4 => ?_)
    · have hM := (o_if hM).1 c4
      refine lv_aload_n hx hb dX9_queue_19 rfl (lv_at hl 0 rfl) ?_
      obtain ⟨y5, h6, hM⟩ := o_bd hM
      refine af_v (ws2 := (w_Mo_queue cI cJ cS q_t q_t_kindOf q_t_comes q_t_wants q_t_runs q_t_readKind q_t_readComes q_t_readWants q_t_queueNow q_t_servedAt q_t_comesWas q_t_readingOf q_t_readingAt q_t_sheetSize q_t_sheetLane q_t_sheet q_t_hands t_fault t_persons t_law t_bellSet t_readAt t_readLaw t_readMany y5.1 y5.2.1 t_doneAt t_readings t_whichMany t_whichOne t_whichTwo t_traceNow t_kindOf t_comes t_wants t_runs t_queueNow y5.2.2)) (va_runV (As := []) (rest := []) ⟨hx, hb, hml, hown, hts⟩ (c_Mo_begin l D cI cJ cS q_t q_t_kindOf q_t_comes q_t_wants q_t_runs q_t_readKind q_t_readComes q_t_readWants q_t_queueNow q_t_servedAt q_t_comesWas q_t_readingOf q_t_readingAt q_t_sheetSize q_t_sheetLane q_t_sheet q_t_hands t_fault t_persons t_law t_bellSet t_readAt t_readLaw t_readMany t_queueMany t_servedNow t_doneAt t_readings t_whichMany t_whichOne t_whichTwo t_traceNow t_servedAt y5 h6 _) (cwV 0 hts gX9_queue_X9_begin rfl rfl rfl (by decide +kernel) ⟨(Nat.le_of_ble_eq_true rfl), (Nat.le_of_ble_eq_true rfl)⟩) (pre_V hK hP hD [0, 6] rfl rfl rfl rfl) rfl rfl hl.1 rfl (lv_room (Nat.le_of_ble_eq_true rfl)) dX9_queue_20 ⟨Nat.zero_le _, Nat.zero_le _⟩) hP hD hS hA [0, 6] [1, 2, 3, 4, 5] [5, 0, 1, 2, 3, 4, 6] rfl rfl rfl (by decide) rfl rfl (fun H locs hP hD hS => ?_)
      refine lv_iconst (v := 0) hx hb dX9_queue_23 (by decide) ?_
      refine lv_istore_n (lv' := [(3, .int 0), (0, .ref q_t), (1, .int p_minute), (2, .int p_k)]) hx hb dX9_queue_24 rfl hl (Nat.le_of_ble_eq_true rfl) rfl (fun ls hl => ?_)
      exact J25 0 y5.1 y5.2.1 t_doneAt t_queueNow y5.2.2 hM _ _ hP hD hS _ (lv_sub hl [1, 2, 3, 0] rfl)
    · have hM := (o_if hM).2 c4
      refine lv_iconst (v := (-1)) hx hb dX9_queue_17 (by decide) ?_
      have hM := (Option.some.inj hM)
      subst hM
      exact rt_i hx hb hr hlocks hP hD hS dX9_queue_18
/-! ===== TurnQueueModel.waitSum ===== -/
abbrev w_Mo_waitSum (cI cJ cS : ClassId) (q_t : Nat) (q_t_kindOf : Nat) (q_t_comes : Nat) (q_t_wants : Nat) (q_t_runs : Nat) (q_t_readKind : Nat) (q_t_readComes : Nat) (q_t_readWants : Nat) (q_t_queueNow : Nat) (q_t_servedAt : Nat) (q_t_comesWas : Nat) (q_t_readingOf : Nat) (q_t_readingAt : Nat) (q_t_sheetSize : Nat) (q_t_sheetLane : Nat) (q_t_sheet : Nat) (q_t_hands : Nat) (t_fault : Int32) (t_persons : Int32) (t_law : Int32) (t_bellSet : Int64) (t_readAt : Int32) (t_readLaw : Int32) (t_readMany : Int32) (t_queueMany : Int32) (t_servedNow : Int32) (t_doneAt : Int32) (t_readings : Int32) (t_whichMany : Int32) (t_whichOne : Int32) (t_whichTwo : Int32) (t_traceNow : Int32) (t_kindOf : Nat → Int32) (t_comes : Nat → Int32) (t_wants : Nat → Int32) (t_runs : Nat → Int32) (t_queueNow : Nat → Int32) (t_servedAt : Nat → Int32) : va_W := [(q_t, .inr (8, [.int t_fault, .int t_persons, .int t_law, .ref q_t_kindOf, .ref q_t_comes, .ref q_t_wants, .ref q_t_runs, .long t_bellSet, .int t_readAt, .int t_readLaw, .int t_readMany, .ref q_t_readKind, .ref q_t_readComes, .ref q_t_readWants, .ref q_t_queueNow, .int t_queueMany, .int t_servedNow, .int t_doneAt, .ref q_t_servedAt, .ref q_t_comesWas, .int t_readings, .ref q_t_readingOf, .ref q_t_readingAt, .int t_whichMany, .int t_whichOne, .int t_whichTwo, .ref q_t_sheetSize, .ref q_t_sheetLane, .ref q_t_sheet, .ref q_t_hands, .int t_traceNow])), (q_t_kindOf, ar cI 7 t_kindOf), (q_t_comes, ar cI 7 t_comes), (q_t_wants, ar cI 7 t_wants), (q_t_runs, ar cI 7 t_runs), (q_t_queueNow, ar cI 7 t_queueNow), (q_t_servedAt, ar cI 7 t_servedAt)]
abbrev rm_Mo_waitSum : Room := { frames := 5, cells := 0, slots := 0, locals := 114 }
noncomputable def Mo_waitSum_b8 (t_persons : Int32) (t_law : Int32) (t_bellSet : Int64) (t_kindOf : Nat → Int32) (t_comes : Nat → Int32) (t_wants : Nat → Int32) (t_runs : Nat → Int32) (x1 : Int32) (x2 : Int32) (t_queueMany : Int32) (t_servedNow : Int32) (t_doneAt : Int32) (t_queueNow : Nat → Int32) (t_servedAt : Nat → Int32) : Option ((Int32 × Int32 × Int32 × Int32 × Int32 × (Nat → Int32) × (Nat → Int32)) ⊕ (Int32 × Int32 × Int32 × Int32 × (Nat → Int32) × (Nat → Int32))) :=
  if t_persons ≤ x2 then
    some (.inr (x1, t_queueMany, t_servedNow, t_doneAt, t_queueNow, t_servedAt))
  else
    if ck x2 7 = true then
      if ck x2 7 = true then
        lt (x1 + ((t_servedAt x2.toNatClampNeg) - (t_comes x2.toNatClampNeg))) fun y6 =>
        lt (x2 + 1) fun y7 =>
        some (.inl (y6, y7, t_queueMany, t_servedNow, t_doneAt, t_queueNow, t_servedAt))
      else none
    else none
noncomputable def Mo_waitSum_s8 (t_persons : Int32) (t_law : Int32) (t_bellSet : Int64) (t_kindOf : Nat → Int32) (t_comes : Nat → Int32) (t_wants : Nat → Int32) (t_runs : Nat → Int32) : (Int32 × Int32 × Int32 × Int32 × Int32 × (Nat → Int32) × (Nat → Int32)) → Option ((Int32 × Int32 × Int32 × Int32 × Int32 × (Nat → Int32) × (Nat → Int32)) ⊕ (Int32 × Int32 × Int32 × Int32 × (Nat → Int32) × (Nat → Int32))) := fun x => Mo_waitSum_b8 t_persons t_law t_bellSet t_kindOf t_comes t_wants t_runs x.1 x.2.1 x.2.2.1 x.2.2.2.1 x.2.2.2.2.1 x.2.2.2.2.2.1 x.2.2.2.2.2.2
noncomputable def Mo_waitSum_l8 (t_persons : Int32) (t_law : Int32) (t_bellSet : Int64) (t_kindOf : Nat → Int32) (t_comes : Nat → Int32) (t_wants : Nat → Int32) (t_runs : Nat → Int32) (x1 : Int32) (x2 : Int32) (t_queueMany : Int32) (t_servedNow : Int32) (t_doneAt : Int32) (t_queueNow : Nat → Int32) (t_servedAt : Nat → Int32) : Option (Int32 × Int32 × Int32 × Int32 × (Nat → Int32) × (Nat → Int32)) := fin (Mo_waitSum_s8 t_persons t_law t_bellSet t_kindOf t_comes t_wants t_runs) (x1, x2, t_queueMany, t_servedNow, t_doneAt, t_queueNow, t_servedAt)
noncomputable def Mo_waitSum (t_persons : Int32) (t_law : Int32) (t_bellSet : Int64) (t_kindOf : Nat → Int32) (t_comes : Nat → Int32) (t_wants : Nat → Int32) (t_runs : Nat → Int32) (t_queueMany : Int32) (t_servedNow : Int32) (t_doneAt : Int32) (t_queueNow : Nat → Int32) (t_servedAt : Nat → Int32) : Option (Int32 × Int32 × Int32 × Int32 × (Nat → Int32) × (Nat → Int32)) :=
  (Mo_goNow t_persons t_law t_bellSet t_kindOf t_comes t_wants t_runs t_queueMany t_servedNow t_doneAt t_queueNow t_servedAt).bind fun y1 =>
  Mo_waitSum_l8 t_persons t_law t_bellSet t_kindOf t_comes t_wants t_runs 0 0 y1.1 y1.2.1 y1.2.2.1 y1.2.2.2.1 y1.2.2.2.2
theorem Mo_waitSum_l8_eq (t_persons : Int32) (t_law : Int32) (t_bellSet : Int64) (t_kindOf : Nat → Int32) (t_comes : Nat → Int32) (t_wants : Nat → Int32) (t_runs : Nat → Int32) (x1 : Int32) (x2 : Int32) (t_queueMany : Int32) (t_servedNow : Int32) (t_doneAt : Int32) (t_queueNow : Nat → Int32) (t_servedAt : Nat → Int32) : Mo_waitSum_l8 t_persons t_law t_bellSet t_kindOf t_comes t_wants t_runs x1 x2 t_queueMany t_servedNow t_doneAt t_queueNow t_servedAt = (Mo_waitSum_b8 t_persons t_law t_bellSet t_kindOf t_comes t_wants t_runs x1 x2 t_queueMany t_servedNow t_doneAt t_queueNow t_servedAt).bind (sg (fin (Mo_waitSum_s8 t_persons t_law t_bellSet t_kindOf t_comes t_wants t_runs))) := by
  unfold Mo_waitSum_l8
  exact fin_eq _ _
theorem Mo_waitSum_l8_fd (t_persons : Int32) (t_law : Int32) (t_bellSet : Int64) (t_kindOf : Nat → Int32) (t_comes : Nat → Int32) (t_wants : Nat → Int32) (t_runs : Nat → Int32) (x1 : Int32) (x2 : Int32) (t_queueMany : Int32) (t_servedNow : Int32) (t_doneAt : Int32) (t_queueNow : Nat → Int32) (t_servedAt : Nat → Int32) : fin (Mo_waitSum_s8 t_persons t_law t_bellSet t_kindOf t_comes t_wants t_runs) (x1, x2, t_queueMany, t_servedNow, t_doneAt, t_queueNow, t_servedAt) = Mo_waitSum_l8 t_persons t_law t_bellSet t_kindOf t_comes t_wants t_runs x1 x2 t_queueMany t_servedNow t_doneAt t_queueNow t_servedAt := rfl
set_option maxRecDepth 100000 in
set_option maxHeartbeats 4000000 in
theorem c_Mo_waitSum (l : Launch) (D : va_G) (cI cJ cS : ClassId) (q_t q_t_kindOf q_t_comes q_t_wants q_t_runs q_t_readKind q_t_readComes q_t_readWants q_t_queueNow q_t_servedAt q_t_comesWas q_t_readingOf q_t_readingAt q_t_sheetSize q_t_sheetLane q_t_sheet q_t_hands : Nat) (t_fault : Int32) (t_persons : Int32) (t_law : Int32) (t_bellSet : Int64) (t_readAt : Int32) (t_readLaw : Int32) (t_readMany : Int32) (t_queueMany : Int32) (t_servedNow : Int32) (t_doneAt : Int32) (t_readings : Int32) (t_whichMany : Int32) (t_whichOne : Int32) (t_whichTwo : Int32) (t_traceNow : Int32) (t_kindOf : Nat → Int32) (t_comes : Nat → Int32) (t_wants : Nat → Int32) (t_runs : Nat → Int32) (t_queueNow : Nat → Int32) (t_servedAt : Nat → Int32) (o : Int32 × Int32 × Int32 × Int32 × (Nat → Int32) × (Nat → Int32)) (hM : Mo_waitSum t_persons t_law t_bellSet t_kindOf t_comes t_wants t_runs t_queueMany t_servedNow t_doneAt t_queueNow t_servedAt = some o) : Ci l yX9_waitSum wsX9_waitSum rm_Mo_waitSum D cI cJ cS [.ref q_t] (w_Mo_waitSum cI cJ cS q_t q_t_kindOf q_t_comes q_t_wants q_t_runs q_t_readKind q_t_readComes q_t_readWants q_t_queueNow q_t_servedAt q_t_comesWas q_t_readingOf q_t_readingAt q_t_sheetSize q_t_sheetLane q_t_sheet q_t_hands t_fault t_persons t_law t_bellSet t_readAt t_readLaw t_readMany t_queueMany t_servedNow t_doneAt t_readings t_whichMany t_whichOne t_whichTwo t_traceNow t_kindOf t_comes t_wants t_runs t_queueNow t_servedAt) (w_Mo_waitSum cI cJ cS q_t q_t_kindOf q_t_comes q_t_wants q_t_runs q_t_readKind q_t_readComes q_t_readWants q_t_queueNow q_t_servedAt q_t_comesWas q_t_readingOf q_t_readingAt q_t_sheetSize q_t_sheetLane q_t_sheet q_t_hands t_fault t_persons t_law t_bellSet t_readAt t_readLaw t_readMany o.2.1 o.2.2.1 o.2.2.2.1 t_readings t_whichMany t_whichOne t_whichTwo t_traceNow t_kindOf t_comes t_wants t_runs o.2.2.2.2.1 o.2.2.2.2.2) o.1 := by
  refine Ci.of (cc := cX9_waitSum) (maxL := 3) (ret := (some .int)) (by decide) rfl (Nat.le_of_ble_eq_true rfl) ?_
  intro p e s m args below meth c A ls hE
  obtain ⟨hx, hb, hr, hml, hown, hts, hlocks, hK, hA, hP, hD, hS, hl⟩ := hE
  have hown : s.vm.findClass RX9 = some m.cls := hown
  have hl : lv_has ls 3 [(0, .ref q_t)] := hl
  have iX9 : ∀ w ∈ u_ws RX9 TX9 31, w ∈ wsX9_waitSum := by decide +kernel
  have k0 := hts (.fieldLink RX9 68 "TurnQueueModel" "persons" "I") (by decide +kernel)
  have k1 := hts (.fieldLink RX9 34 "TurnQueueModel" "servedAt" "[I") (by decide +kernel)
  have k2 := hts (.fieldLink RX9 13 "TurnQueueModel" "comes" "[I") (by decide +kernel)
  have L8 : ∀ n : Nat, (∀ (x1 : Int32) (x2 : Int32) (t_queueMany : Int32) (t_servedNow : Int32) (t_doneAt : Int32) (t_queueNow : Nat → Int32) (t_servedAt : Nat → Int32), itr (Mo_waitSum_s8 t_persons t_law t_bellSet t_kindOf t_comes t_wants t_runs) n (x1, x2, t_queueMany, t_servedNow, t_doneAt, t_queueNow, t_servedAt) = some o → ∀ (H : Heap) (locs : List Loc), va_P D vwCl (w_Mo_waitSum cI cJ cS q_t q_t_kindOf q_t_comes q_t_wants q_t_runs q_t_readKind q_t_readComes q_t_readWants q_t_queueNow q_t_servedAt q_t_comesWas q_t_readingOf q_t_readingAt q_t_sheetSize q_t_sheetLane q_t_sheet q_t_hands t_fault t_persons t_law t_bellSet t_readAt t_readLaw t_readMany t_queueMany t_servedNow t_doneAt t_readings t_whichMany t_whichOne t_whichTwo t_traceNow t_kindOf t_comes t_wants t_runs t_queueNow t_servedAt) H → va_D A (w_Mo_waitSum cI cJ cS q_t q_t_kindOf q_t_comes q_t_wants q_t_runs q_t_readKind q_t_readComes q_t_readWants q_t_queueNow q_t_servedAt q_t_comesWas q_t_readingOf q_t_readingAt q_t_sheetSize q_t_sheetLane q_t_sheet q_t_hands t_fault t_persons t_law t_bellSet t_readAt t_readLaw t_readMany t_queueMany t_servedNow t_doneAt t_readings t_whichMany t_whichOne t_whichTwo t_traceNow t_kindOf t_comes t_wants t_runs t_queueNow t_servedAt) → va_S A s.heap H locs → ∀ ls : Array Slot, lv_has ls 3 [(0, .ref q_t), (1, .int x1), (2, .int x2)] → W p l e (headSpec wsX9_waitSum rm_Mo_waitSum).room s m args below meth c H locs 0 0 (MQ below (CQi D (w_Mo_waitSum cI cJ cS q_t q_t_kindOf q_t_comes q_t_wants q_t_runs q_t_readKind q_t_readComes q_t_readWants q_t_queueNow q_t_servedAt q_t_comesWas q_t_readingOf q_t_readingAt q_t_sheetSize q_t_sheetLane q_t_sheet q_t_hands t_fault t_persons t_law t_bellSet t_readAt t_readLaw t_readMany o.2.1 o.2.2.1 o.2.2.2.1 t_readings t_whichMany t_whichOne t_whichTwo t_traceNow t_kindOf t_comes t_wants t_runs o.2.2.2.2.1 o.2.2.2.2.2) A o.1) args s 0 0 A) (F0 m 8 ls [])) := by
    intro n
    induction n with
    | zero => exact fun _ _ _ _ _ _ _ hM => (itr_0 hM).elim
    | succ n ih =>
      intro x1 x2 t_queueMany t_servedNow t_doneAt t_queueNow t_servedAt hM H locs hP hD hS ls hl
      have hM : (Mo_waitSum_b8 t_persons t_law t_bellSet t_kindOf t_comes t_wants t_runs x1 x2 t_queueMany t_servedNow t_doneAt t_queueNow t_servedAt).bind (sg (itr (Mo_waitSum_s8 t_persons t_law t_bellSet t_kindOf t_comes t_wants t_runs) n)) = some o := hM
      unfold Mo_waitSum_b8 at hM
      refine lv_iload_n hx hb dX9_waitSum_8 rfl (lv_at hl 2 rfl) ?_
      refine lv_aload_n hx hb dX9_waitSum_9 rfl (lv_at hl 0 rfl) ?_
      refine va_get (ci := 8) (v := .int t_persons) (C := RX9) (T := TX9) (N := 31) hx hb hts iX9 hown hK.1 hP 0 rfl rfl 1 (Nat.le_of_ble_eq_true rfl) k0 (fun _ h9 => h9) rfl dX9_waitSum_10 ?_
      refine lv_icmp_ge (tgt := 38) hx hb dX9_waitSum_13 (by decide) (fun c3 => ?_) (fun c3 => ?_)
      · have hM := (s_if hM).1 c3
        refine lv_iload_n hx hb dX9_waitSum_38 rfl (lv_at hl 1 rfl) ?_
        have hM := (Option.some.inj (s_rt hM))
        subst hM
        exact rt_i hx hb hr hlocks hP hD hS dX9_waitSum_39
      · have hM := (s_if hM).2 c3
        refine lv_iload_n hx hb dX9_waitSum_16 rfl (lv_at hl 1 rfl) ?_
        refine lv_aload_n hx hb dX9_waitSum_17 rfl (lv_at hl 0 rfl) ?_
        refine va_get (ci := 8) (v := .ref q_t_servedAt) (C := RX9) (T := TX9) (N := 31) hx hb hts iX9 hown hK.1 hP 0 rfl rfl 18 (Nat.le_of_ble_eq_true rfl) k1 (fun _ h9 => h9) rfl dX9_waitSum_18 ?_
        refine lv_iload_n hx hb dX9_waitSum_21 rfl (lv_at hl 2 rfl) ?_
        obtain ⟨h4, hM⟩ := s_ck hM
        refine va_iald hx hb hK.1 hP 6 0 rfl rfl h4 dX9_waitSum_22 ?_
        refine lv_aload_n hx hb dX9_waitSum_23 rfl (lv_at hl 0 rfl) ?_
        refine va_get (ci := 8) (v := .ref q_t_comes) (C := RX9) (T := TX9) (N := 31) hx hb hts iX9 hown hK.1 hP 0 rfl rfl 4 (Nat.le_of_ble_eq_true rfl) k2 (fun _ h9 => h9) rfl dX9_waitSum_24 ?_
        refine lv_iload_n hx hb dX9_waitSum_27 rfl (lv_at hl 2 rfl) ?_
        obtain ⟨h5, hM⟩ := s_ck hM
        refine va_iald hx hb hK.1 hP 2 0 rfl rfl h5 dX9_waitSum_28 ?_
        refine lv_isub hx hb dX9_waitSum_29 ?_
        refine lv_iadd hx hb dX9_waitSum_30 ?_
        refine lv_topi (fun y6 ey6 => ?_)
        have hM := s_lt hM y6 ey6
        refine lv_istore_n (lv' := [(1, .int y6), (0, .ref q_t), (2, .int x2)]) hx hb dX9_waitSum_31 rfl hl (Nat.le_of_ble_eq_true rfl) rfl (fun ls hl => ?_)
        obtain ⟨y7, ey7⟩ : ∃ y : Int32, y = x2 + 1 := ⟨_, rfl⟩
        have hM := s_lt hM y7 ey7
        refine lv_iinc (v := y7) (lv' := [(2, .int y7), (1, .int y6), (0, .ref q_t)]) hx hb dX9_waitSum_32 hl (k := 2) rfl (by rw [ey7]; rfl) (Nat.le_of_ble_eq_true rfl) rfl (fun ls hl => ?_)
        refine lv_goto (tgt := 8) hx hb dX9_waitSum_35 (by decide) ?_
        exact ih y6 y7 t_queueMany t_servedNow t_doneAt t_queueNow t_servedAt (s_jp hM) _ _ hP hD hS _ (lv_sub hl [2, 1, 0] rfl)
  have J8 : ∀ (x1 : Int32) (x2 : Int32) (t_queueMany : Int32) (t_servedNow : Int32) (t_doneAt : Int32) (t_queueNow : Nat → Int32) (t_servedAt : Nat → Int32), Mo_waitSum_l8 t_persons t_law t_bellSet t_kindOf t_comes t_wants t_runs x1 x2 t_queueMany t_servedNow t_doneAt t_queueNow t_servedAt = some o → ∀ (H : Heap) (locs : List Loc), va_P D vwCl (w_Mo_waitSum cI cJ cS q_t q_t_kindOf q_t_comes q_t_wants q_t_runs q_t_readKind q_t_readComes q_t_readWants q_t_queueNow q_t_servedAt q_t_comesWas q_t_readingOf q_t_readingAt q_t_sheetSize q_t_sheetLane q_t_sheet q_t_hands t_fault t_persons t_law t_bellSet t_readAt t_readLaw t_readMany t_queueMany t_servedNow t_doneAt t_readings t_whichMany t_whichOne t_whichTwo t_traceNow t_kindOf t_comes t_wants t_runs t_queueNow t_servedAt) H → va_D A (w_Mo_waitSum cI cJ cS q_t q_t_kindOf q_t_comes q_t_wants q_t_runs q_t_readKind q_t_readComes q_t_readWants q_t_queueNow q_t_servedAt q_t_comesWas q_t_readingOf q_t_readingAt q_t_sheetSize q_t_sheetLane q_t_sheet q_t_hands t_fault t_persons t_law t_bellSet t_readAt t_readLaw t_readMany t_queueMany t_servedNow t_doneAt t_readings t_whichMany t_whichOne t_whichTwo t_traceNow t_kindOf t_comes t_wants t_runs t_queueNow t_servedAt) → va_S A s.heap H locs → ∀ ls : Array Slot, lv_has ls 3 [(0, .ref q_t), (1, .int x1), (2, .int x2)] → W p l e (headSpec wsX9_waitSum rm_Mo_waitSum).room s m args below meth c H locs 0 0 (MQ below (CQi D (w_Mo_waitSum cI cJ cS q_t q_t_kindOf q_t_comes q_t_wants q_t_runs q_t_readKind q_t_readComes q_t_readWants q_t_queueNow q_t_servedAt q_t_comesWas q_t_readingOf q_t_readingAt q_t_sheetSize q_t_sheetLane q_t_sheet q_t_hands t_fault t_persons t_law t_bellSet t_readAt t_readLaw t_readMany o.2.1 o.2.2.1 o.2.2.2.1 t_readings t_whichMany t_whichOne t_whichTwo t_traceNow t_kindOf t_comes t_wants t_runs o.2.2.2.2.1 o.2.2.2.2.2) A o.1) args s 0 0 A) (F0 m 8 ls []) := by
    intro x1 x2 t_queueMany t_servedNow t_doneAt t_queueNow t_servedAt hM
    unfold Mo_waitSum_l8 at hM
    obtain ⟨n0, hM⟩ := fin_some hM
    exact (L8 n0) x1 x2 t_queueMany t_servedNow t_doneAt t_queueNow t_servedAt hM
  unfold Mo_waitSum at hM
  refine lv_aload_n hx hb dX9_waitSum_0 rfl (lv_at hl 0 rfl) ?_
  obtain ⟨y1, h2, hM⟩ := o_bd hM
  refine af_v (ws2 := (w_Mo_waitSum cI cJ cS q_t q_t_kindOf q_t_comes q_t_wants q_t_runs q_t_readKind q_t_readComes q_t_readWants q_t_queueNow q_t_servedAt q_t_comesWas q_t_readingOf q_t_readingAt q_t_sheetSize q_t_sheetLane q_t_sheet q_t_hands t_fault t_persons t_law t_bellSet t_readAt t_readLaw t_readMany y1.1 y1.2.1 y1.2.2.1 t_readings t_whichMany t_whichOne t_whichTwo t_traceNow t_kindOf t_comes t_wants t_runs y1.2.2.2.1 y1.2.2.2.2)) (va_runV (As := []) (rest := []) ⟨hx, hb, hml, hown, hts⟩ (c_Mo_goNow l D cI cJ cS q_t q_t_kindOf q_t_comes q_t_wants q_t_runs q_t_readKind q_t_readComes q_t_readWants q_t_queueNow q_t_servedAt q_t_comesWas q_t_readingOf q_t_readingAt q_t_sheetSize q_t_sheetLane q_t_sheet q_t_hands t_fault t_persons t_law t_bellSet t_readAt t_readLaw t_readMany t_queueMany t_servedNow t_doneAt t_readings t_whichMany t_whichOne t_whichTwo t_traceNow t_kindOf t_comes t_wants t_runs t_queueNow t_servedAt y1 h2 _) (cwV 0 hts gX9_waitSum_X9_goNow rfl rfl rfl (by decide +kernel) ⟨(Nat.le_of_ble_eq_true rfl), (Nat.le_of_ble_eq_true rfl)⟩) (pre_V hK hP hD [0, 1, 2, 3, 4, 5, 6] rfl rfl rfl rfl) rfl rfl hl.1 rfl (lv_room (Nat.le_of_ble_eq_true rfl)) dX9_waitSum_1 ⟨Nat.zero_le _, Nat.zero_le _⟩) hP hD hS hA [0, 1, 2, 3, 4, 5, 6] [] [0, 1, 2, 3, 4, 5, 6] rfl rfl rfl (by decide) rfl rfl (fun H locs hP hD hS => ?_)
  refine lv_iconst (v := 0) hx hb dX9_waitSum_4 (by decide) ?_
  refine lv_istore_n (lv' := [(1, .int 0), (0, .ref q_t)]) hx hb dX9_waitSum_5 rfl hl (Nat.le_of_ble_eq_true rfl) rfl (fun ls hl => ?_)
  refine lv_iconst (v := 0) hx hb dX9_waitSum_6 (by decide) ?_
  refine lv_istore_n (lv' := [(2, .int 0), (1, .int 0), (0, .ref q_t)]) hx hb dX9_waitSum_7 rfl hl (Nat.le_of_ble_eq_true rfl) rfl (fun ls hl => ?_)
  exact J8 0 0 y1.1 y1.2.1 y1.2.2.1 y1.2.2.2.1 y1.2.2.2.2 hM _ _ hP hD hS _ (lv_sub hl [2, 1, 0] rfl)
/-! ===== TurnQueueModel.waits ===== -/
abbrev w_Mo_waits (cI cJ cS : ClassId) (q_t : Nat) (q_t_kindOf : Nat) (q_t_comes : Nat) (q_t_wants : Nat) (q_t_runs : Nat) (q_t_readKind : Nat) (q_t_readComes : Nat) (q_t_readWants : Nat) (q_t_queueNow : Nat) (q_t_servedAt : Nat) (q_t_comesWas : Nat) (q_t_readingOf : Nat) (q_t_readingAt : Nat) (q_t_sheetSize : Nat) (q_t_sheetLane : Nat) (q_t_sheet : Nat) (q_t_hands : Nat) (t_fault : Int32) (t_persons : Int32) (t_law : Int32) (t_bellSet : Int64) (t_readAt : Int32) (t_readLaw : Int32) (t_readMany : Int32) (t_queueMany : Int32) (t_servedNow : Int32) (t_doneAt : Int32) (t_readings : Int32) (t_whichMany : Int32) (t_whichOne : Int32) (t_whichTwo : Int32) (t_traceNow : Int32) (t_kindOf : Nat → Int32) (t_comes : Nat → Int32) (t_wants : Nat → Int32) (t_runs : Nat → Int32) (t_queueNow : Nat → Int32) (t_servedAt : Nat → Int32) : va_W := [(q_t, .inr (8, [.int t_fault, .int t_persons, .int t_law, .ref q_t_kindOf, .ref q_t_comes, .ref q_t_wants, .ref q_t_runs, .long t_bellSet, .int t_readAt, .int t_readLaw, .int t_readMany, .ref q_t_readKind, .ref q_t_readComes, .ref q_t_readWants, .ref q_t_queueNow, .int t_queueMany, .int t_servedNow, .int t_doneAt, .ref q_t_servedAt, .ref q_t_comesWas, .int t_readings, .ref q_t_readingOf, .ref q_t_readingAt, .int t_whichMany, .int t_whichOne, .int t_whichTwo, .ref q_t_sheetSize, .ref q_t_sheetLane, .ref q_t_sheet, .ref q_t_hands, .int t_traceNow])), (q_t_kindOf, ar cI 7 t_kindOf), (q_t_comes, ar cI 7 t_comes), (q_t_wants, ar cI 7 t_wants), (q_t_runs, ar cI 7 t_runs), (q_t_queueNow, ar cI 7 t_queueNow), (q_t_servedAt, ar cI 7 t_servedAt)]
abbrev rm_Mo_waits : Room := { frames := 6, cells := 0, slots := 0, locals := 136 }
noncomputable def Mo_waits (p_which : Int32) (t_persons : Int32) (t_law : Int32) (t_bellSet : Int64) (t_kindOf : Nat → Int32) (t_comes : Nat → Int32) (t_wants : Nat → Int32) (t_runs : Nat → Int32) (t_queueMany : Int32) (t_servedNow : Int32) (t_doneAt : Int32) (t_queueNow : Nat → Int32) (t_servedAt : Nat → Int32) : Option (Int64 × Int32 × Int32 × Int32 × (Nat → Int32) × (Nat → Int32)) :=
  (Mo_in p_which.toInt64 0 1).bind fun y1 =>
  if y1 = 0 then
    (Mo_lost).bind fun y4 =>
    some (y4, t_queueMany, t_servedNow, t_doneAt, t_queueNow, t_servedAt)
  else
    if t_persons = 0 then
      (Mo_lost).bind fun y11 =>
      some (y11, t_queueMany, t_servedNow, t_doneAt, t_queueNow, t_servedAt)
    else
      (Mo_waitSum t_persons t_law t_bellSet t_kindOf t_comes t_wants t_runs t_queueMany t_servedNow t_doneAt t_queueNow t_servedAt).bind fun y7 =>
      (Mo_told y7.1.toInt64 t_persons.toInt64 p_which).bind fun y9 =>
      some (y9, y7.2.1, y7.2.2.1, y7.2.2.2.1, y7.2.2.2.2.1, y7.2.2.2.2.2)
set_option maxRecDepth 100000 in
set_option maxHeartbeats 4000000 in
theorem c_Mo_waits (l : Launch) (D : va_G) (cI cJ cS : ClassId) (q_t q_t_kindOf q_t_comes q_t_wants q_t_runs q_t_readKind q_t_readComes q_t_readWants q_t_queueNow q_t_servedAt q_t_comesWas q_t_readingOf q_t_readingAt q_t_sheetSize q_t_sheetLane q_t_sheet q_t_hands : Nat) (t_fault : Int32) (t_persons : Int32) (t_law : Int32) (t_bellSet : Int64) (t_readAt : Int32) (t_readLaw : Int32) (t_readMany : Int32) (t_queueMany : Int32) (t_servedNow : Int32) (t_doneAt : Int32) (t_readings : Int32) (t_whichMany : Int32) (t_whichOne : Int32) (t_whichTwo : Int32) (t_traceNow : Int32) (t_kindOf : Nat → Int32) (t_comes : Nat → Int32) (t_wants : Nat → Int32) (t_runs : Nat → Int32) (t_queueNow : Nat → Int32) (t_servedAt : Nat → Int32) (p_which : Int32) (o : Int64 × Int32 × Int32 × Int32 × (Nat → Int32) × (Nat → Int32)) (hM : Mo_waits p_which t_persons t_law t_bellSet t_kindOf t_comes t_wants t_runs t_queueMany t_servedNow t_doneAt t_queueNow t_servedAt = some o) : Cl l yX9_waits wsX9_waits rm_Mo_waits D cI cJ cS [.ref q_t, .int p_which] (w_Mo_waits cI cJ cS q_t q_t_kindOf q_t_comes q_t_wants q_t_runs q_t_readKind q_t_readComes q_t_readWants q_t_queueNow q_t_servedAt q_t_comesWas q_t_readingOf q_t_readingAt q_t_sheetSize q_t_sheetLane q_t_sheet q_t_hands t_fault t_persons t_law t_bellSet t_readAt t_readLaw t_readMany t_queueMany t_servedNow t_doneAt t_readings t_whichMany t_whichOne t_whichTwo t_traceNow t_kindOf t_comes t_wants t_runs t_queueNow t_servedAt) (w_Mo_waits cI cJ cS q_t q_t_kindOf q_t_comes q_t_wants q_t_runs q_t_readKind q_t_readComes q_t_readWants q_t_queueNow q_t_servedAt q_t_comesWas q_t_readingOf q_t_readingAt q_t_sheetSize q_t_sheetLane q_t_sheet q_t_hands t_fault t_persons t_law t_bellSet t_readAt t_readLaw t_readMany o.2.1 o.2.2.1 o.2.2.2.1 t_readings t_whichMany t_whichOne t_whichTwo t_traceNow t_kindOf t_comes t_wants t_runs o.2.2.2.2.1 o.2.2.2.2.2) o.1 := by
  refine Cl.of (cc := cX9_waits) (maxL := 2) (ret := (some .long)) (by decide) rfl (Nat.le_of_ble_eq_true rfl) ?_
  intro p e s m args below meth c A ls hE
  obtain ⟨hx, hb, hr, hml, hown, hts, hlocks, hK, hA, hP, hD, hS, hl⟩ := hE
  have hown : s.vm.findClass RX9 = some m.cls := hown
  have hl : lv_has ls 2 [(0, .ref q_t), (1, .int p_which)] := hl
  have iX9 : ∀ w ∈ u_ws RX9 TX9 31, w ∈ wsX9_waits := by decide +kernel
  have k0 := hts (.fieldLink RX9 68 "TurnQueueModel" "persons" "I") (by decide +kernel)
  unfold Mo_waits at hM
  refine lv_iload_n hx hb dX9_waits_0 rfl (lv_at hl 1 rfl) ?_
  refine lv_i2l (v := p_which.toInt64) hx hb dX9_waits_1 rfl ?_
  refine lv_lconst (v := 0) hx hb dX9_waits_2 (by decide) ?_
  refine lv_lconst (v := 1) hx hb dX9_waits_3 (by decide) ?_
  obtain ⟨y1, h2, hM⟩ := o_bd hM
  refine af_i (ws2 := (w_Mo_waits cI cJ cS q_t q_t_kindOf q_t_comes q_t_wants q_t_runs q_t_readKind q_t_readComes q_t_readWants q_t_queueNow q_t_servedAt q_t_comesWas q_t_readingOf q_t_readingAt q_t_sheetSize q_t_sheetLane q_t_sheet q_t_hands t_fault t_persons t_law t_bellSet t_readAt t_readLaw t_readMany t_queueMany t_servedNow t_doneAt t_readings t_whichMany t_whichOne t_whichTwo t_traceNow t_kindOf t_comes t_wants t_runs t_queueNow t_servedAt)) (va_runS (As := [.long p_which.toInt64, .long 0, .long 1]) (rest := []) ⟨hx, hb, hml, hown, hts⟩ (c_Mo_in l D cI cJ cS p_which.toInt64 0 1 y1 h2 _) (va_cwS 3 hts gX9_waits_X9_in rfl rfl rfl (by decide +kernel) ⟨(Nat.le_of_ble_eq_true rfl), (Nat.le_of_ble_eq_true rfl)⟩) (pre_S hK hP hD [] rfl rfl) rfl rfl hl.1 rfl (lv_room (Nat.le_of_ble_eq_true rfl)) dX9_waits_4 ⟨Nat.zero_le _, Nat.zero_le _⟩) hP hD hS hA [] [0, 1, 2, 3, 4, 5, 6] [0, 1, 2, 3, 4, 5, 6] rfl rfl rfl (by decide) rfl rfl (fun H locs hP hD hS => ?_)
  refine lv_if_eq (tgt := 17) hx hb dX9_waits_7 (by decide) (fun c3 => ?_) (fun c3 => ?_)
  · have hM := (o_if hM).1 c3
    obtain ⟨y4, h5, hM⟩ := o_bd hM
    refine af_l (ws2 := (w_Mo_waits cI cJ cS q_t q_t_kindOf q_t_comes q_t_wants q_t_runs q_t_readKind q_t_readComes q_t_readWants q_t_queueNow q_t_servedAt q_t_comesWas q_t_readingOf q_t_readingAt q_t_sheetSize q_t_sheetLane q_t_sheet q_t_hands t_fault t_persons t_law t_bellSet t_readAt t_readLaw t_readMany t_queueMany t_servedNow t_doneAt t_readings t_whichMany t_whichOne t_whichTwo t_traceNow t_kindOf t_comes t_wants t_runs t_queueNow t_servedAt)) (va_runS (As := []) (rest := []) ⟨hx, hb, hml, hown, hts⟩ (c_Mo_lost l D cI cJ cS y4 h5 _) (va_cwS 0 hts gX9_waits_X9_lost rfl rfl rfl (by decide +kernel) ⟨(Nat.le_of_ble_eq_true rfl), (Nat.le_of_ble_eq_true rfl)⟩) (pre_S hK hP hD [] rfl rfl) rfl rfl hl.1 rfl (lv_room (Nat.le_of_ble_eq_true rfl)) dX9_waits_17 ⟨Nat.zero_le _, Nat.zero_le _⟩) hP hD hS hA [] [0, 1, 2, 3, 4, 5, 6] [0, 1, 2, 3, 4, 5, 6] rfl rfl rfl (by decide) rfl rfl (fun H locs hP hD hS => ?_)
    have hM := (Option.some.inj hM)
    subst hM
    exact rt_l hx hb hr hlocks hP hD hS dX9_waits_20
  · have hM := (o_if hM).2 c3
    refine lv_aload_n hx hb dX9_waits_10 rfl (lv_at hl 0 rfl) ?_
    refine va_get (ci := 8) (v := .int t_persons) (C := RX9) (T := TX9) (N := 31) hx hb hts iX9 hown hK.1 hP 0 rfl rfl 1 (Nat.le_of_ble_eq_true rfl) k0 (fun _ h9 => h9) rfl dX9_waits_11 ?_
    refine lv_if_ne (tgt := 21) hx hb dX9_waits_14 (by decide) (fun c6 => ?_) (fun c6 => ?_)
    · have hM := (o_if hM).2 c6
      refine lv_aload_n hx hb dX9_waits_21 rfl (lv_at hl 0 rfl) ?_
      obtain ⟨y7, h8, hM⟩ := o_bd hM
      refine af_i (ws2 := (w_Mo_waits cI cJ cS q_t q_t_kindOf q_t_comes q_t_wants q_t_runs q_t_readKind q_t_readComes q_t_readWants q_t_queueNow q_t_servedAt q_t_comesWas q_t_readingOf q_t_readingAt q_t_sheetSize q_t_sheetLane q_t_sheet q_t_hands t_fault t_persons t_law t_bellSet t_readAt t_readLaw t_readMany y7.2.1 y7.2.2.1 y7.2.2.2.1 t_readings t_whichMany t_whichOne t_whichTwo t_traceNow t_kindOf t_comes t_wants t_runs y7.2.2.2.2.1 y7.2.2.2.2.2)) (va_runV (As := []) (rest := []) ⟨hx, hb, hml, hown, hts⟩ (c_Mo_waitSum l D cI cJ cS q_t q_t_kindOf q_t_comes q_t_wants q_t_runs q_t_readKind q_t_readComes q_t_readWants q_t_queueNow q_t_servedAt q_t_comesWas q_t_readingOf q_t_readingAt q_t_sheetSize q_t_sheetLane q_t_sheet q_t_hands t_fault t_persons t_law t_bellSet t_readAt t_readLaw t_readMany t_queueMany t_servedNow t_doneAt t_readings t_whichMany t_whichOne t_whichTwo t_traceNow t_kindOf t_comes t_wants t_runs t_queueNow t_servedAt y7 h8 _) (cwV 0 hts gX9_waits_X9_waitSum rfl rfl rfl (by decide +kernel) ⟨(Nat.le_of_ble_eq_true rfl), (Nat.le_of_ble_eq_true rfl)⟩) (pre_V hK hP hD [0, 1, 2, 3, 4, 5, 6] rfl rfl rfl rfl) rfl rfl hl.1 rfl (lv_room (Nat.le_of_ble_eq_true rfl)) dX9_waits_22 ⟨Nat.zero_le _, Nat.zero_le _⟩) hP hD hS hA [0, 1, 2, 3, 4, 5, 6] [] [0, 1, 2, 3, 4, 5, 6] rfl rfl rfl (by decide) rfl rfl (fun H locs hP hD hS => ?_)
      refine lv_i2l (v := y7.1.toInt64) hx hb dX9_waits_25 rfl ?_
      refine lv_aload_n hx hb dX9_waits_26 rfl (lv_at hl 0 rfl) ?_
      refine va_get (ci := 8) (v := .int t_persons) (C := RX9) (T := TX9) (N := 31) hx hb hts iX9 hown hK.1 hP 0 rfl rfl 1 (Nat.le_of_ble_eq_true rfl) k0 (fun _ h9 => h9) rfl dX9_waits_27 ?_
      refine lv_i2l (v := t_persons.toInt64) hx hb dX9_waits_30 rfl ?_
      refine lv_iload_n hx hb dX9_waits_31 rfl (lv_at hl 1 rfl) ?_
      obtain ⟨y9, h10, hM⟩ := o_bd hM
      refine af_l (ws2 := (w_Mo_waits cI cJ cS q_t q_t_kindOf q_t_comes q_t_wants q_t_runs q_t_readKind q_t_readComes q_t_readWants q_t_queueNow q_t_servedAt q_t_comesWas q_t_readingOf q_t_readingAt q_t_sheetSize q_t_sheetLane q_t_sheet q_t_hands t_fault t_persons t_law t_bellSet t_readAt t_readLaw t_readMany y7.2.1 y7.2.2.1 y7.2.2.2.1 t_readings t_whichMany t_whichOne t_whichTwo t_traceNow t_kindOf t_comes t_wants t_runs y7.2.2.2.2.1 y7.2.2.2.2.2)) (va_runS (As := [.long y7.1.toInt64, .long t_persons.toInt64, .int p_which]) (rest := []) ⟨hx, hb, hml, hown, hts⟩ (c_Mo_told l D cI cJ cS y7.1.toInt64 t_persons.toInt64 p_which y9 h10 _) (va_cwS 3 hts gX9_waits_X9_told rfl rfl rfl (by decide +kernel) ⟨(Nat.le_of_ble_eq_true rfl), (Nat.le_of_ble_eq_true rfl)⟩) (pre_S hK hP hD [] rfl rfl) rfl rfl hl.1 rfl (lv_room (Nat.le_of_ble_eq_true rfl)) dX9_waits_32 ⟨Nat.zero_le _, Nat.zero_le _⟩) hP hD hS hA [] [0, 1, 2, 3, 4, 5, 6] [0, 1, 2, 3, 4, 5, 6] rfl rfl rfl (by decide) rfl rfl (fun H locs hP hD hS => ?_)
      have hM := (Option.some.inj hM)
      subst hM
      exact rt_l hx hb hr hlocks hP hD hS dX9_waits_35
    · have hM := (o_if hM).1 c6
      obtain ⟨y11, h12, hM⟩ := o_bd hM
      refine af_l (ws2 := (w_Mo_waits cI cJ cS q_t q_t_kindOf q_t_comes q_t_wants q_t_runs q_t_readKind q_t_readComes q_t_readWants q_t_queueNow q_t_servedAt q_t_comesWas q_t_readingOf q_t_readingAt q_t_sheetSize q_t_sheetLane q_t_sheet q_t_hands t_fault t_persons t_law t_bellSet t_readAt t_readLaw t_readMany t_queueMany t_servedNow t_doneAt t_readings t_whichMany t_whichOne t_whichTwo t_traceNow t_kindOf t_comes t_wants t_runs t_queueNow t_servedAt)) (va_runS (As := []) (rest := []) ⟨hx, hb, hml, hown, hts⟩ (c_Mo_lost l D cI cJ cS y11 h12 _) (va_cwS 0 hts gX9_waits_X9_lost rfl rfl rfl (by decide +kernel) ⟨(Nat.le_of_ble_eq_true rfl), (Nat.le_of_ble_eq_true rfl)⟩) (pre_S hK hP hD [] rfl rfl) rfl rfl hl.1 rfl (lv_room (Nat.le_of_ble_eq_true rfl)) dX9_waits_17 ⟨Nat.zero_le _, Nat.zero_le _⟩) hP hD hS hA [] [0, 1, 2, 3, 4, 5, 6] [0, 1, 2, 3, 4, 5, 6] rfl rfl rfl (by decide) rfl rfl (fun H locs hP hD hS => ?_)
      have hM := (Option.some.inj hM)
      subst hM
      exact rt_l hx hb hr hlocks hP hD hS dX9_waits_20
/-! ===== TurnQueueModel.leastSum ===== -/
abbrev w_Mo_leastSum (cI cJ cS : ClassId) (q_t : Nat) (q_t_kindOf : Nat) (q_t_comes : Nat) (q_t_wants : Nat) (q_t_runs : Nat) (q_t_readKind : Nat) (q_t_readComes : Nat) (q_t_readWants : Nat) (q_t_queueNow : Nat) (q_t_servedAt : Nat) (q_t_comesWas : Nat) (q_t_readingOf : Nat) (q_t_readingAt : Nat) (q_t_sheetSize : Nat) (q_t_sheetLane : Nat) (q_t_sheet : Nat) (q_t_hands : Nat) (t_fault : Int32) (t_persons : Int32) (t_law : Int32) (t_bellSet : Int64) (t_readAt : Int32) (t_readLaw : Int32) (t_readMany : Int32) (t_queueMany : Int32) (t_servedNow : Int32) (t_doneAt : Int32) (t_readings : Int32) (t_whichMany : Int32) (t_whichOne : Int32) (t_whichTwo : Int32) (t_traceNow : Int32) (t_comes : Nat → Int32) (t_wants : Nat → Int32) : va_W := [(q_t, .inr (8, [.int t_fault, .int t_persons, .int t_law, .ref q_t_kindOf, .ref q_t_comes, .ref q_t_wants, .ref q_t_runs, .long t_bellSet, .int t_readAt, .int t_readLaw, .int t_readMany, .ref q_t_readKind, .ref q_t_readComes, .ref q_t_readWants, .ref q_t_queueNow, .int t_queueMany, .int t_servedNow, .int t_doneAt, .ref q_t_servedAt, .ref q_t_comesWas, .int t_readings, .ref q_t_readingOf, .ref q_t_readingAt, .int t_whichMany, .int t_whichOne, .int t_whichTwo, .ref q_t_sheetSize, .ref q_t_sheetLane, .ref q_t_sheet, .ref q_t_hands, .int t_traceNow])), (q_t_comes, ar cI 7 t_comes), (q_t_wants, ar cI 7 t_wants)]
abbrev rm_Mo_leastSum : Room := { frames := 0, cells := 0, slots := 0, locals := 0 }
noncomputable def Mo_leastSum_j109 (t_persons : Int32) (t_comes : Nat → Int32) (t_wants : Nat → Int32) (x1 : Int32) (x2 : Int32) (x3 : Int32) (x4 : Int32) (x5 : Int32) : Option ((Nat × Int32 × Int32 × Int32 × Int32 × Int32 × Int32) ⊕ (Int32)) :=
  if x5 < 0 then
    lt (x4 + 1) fun y4 =>
    some (.inl (0, x1, x2, x3, y4, 0, 0))
  else
    lt (x1 ||| ((1 : Int32) <<< (x5 &&& 31))) fun y5 =>
    if ck x5 7 = true then
      lt (x2 + (x4 - (t_comes x5.toNatClampNeg))) fun y7 =>
      if ck x5 7 = true then
        lt (x4 + (t_wants x5.toNatClampNeg)) fun y9 =>
        lt (x4 + 1) fun y10 =>
        some (.inl (0, y5, y7, y9, y10, 0, 0))
      else none
    else none
noncomputable def Mo_leastSum_j65 (t_persons : Int32) (t_comes : Nat → Int32) (t_wants : Nat → Int32) (x1 : Int32) (x2 : Int32) (x3 : Int32) (x4 : Int32) (x5 : Int32) (x6 : Int32) (s0 : Int32) : Option ((Nat × Int32 × Int32 × Int32 × Int32 × Int32 × Int32) ⊕ (Int32)) :=
  if s0 = 0 then
    lt (x6 + 1) fun y14 =>
    some (.inl (1, x1, x2, x3, x4, x5, y14))
  else
    if x5 < 0 then
      lt (x6 + 1) fun y16 =>
      some (.inl (1, x1, x2, x3, x4, x6, y16))
    else
      if ck x6 7 = true then
        if ck x5 7 = true then
          if (t_wants x5.toNatClampNeg) ≤ (t_wants x6.toNatClampNeg) then
            lt (x6 + 1) fun y20 =>
            some (.inl (1, x1, x2, x3, x4, x5, y20))
          else
            lt (x6 + 1) fun y21 =>
            some (.inl (1, x1, x2, x3, x4, x6, y21))
        else none
      else none
noncomputable def Mo_leastSum_b9 (t_persons : Int32) (t_comes : Nat → Int32) (t_wants : Nat → Int32) (x1 : Int32) (x2 : Int32) (x3 : Int32) (x4 : Int32) : Option ((Nat × Int32 × Int32 × Int32 × Int32 × Int32 × Int32) ⊕ (Int32)) :=
  if 200 ≤ x4 then
    some (.inr x2)
  else
    some (.inl (1, x1, x2, x3, x4, (-9), 0))
noncomputable def Mo_leastSum_b24 (t_persons : Int32) (t_comes : Nat → Int32) (t_wants : Nat → Int32) (x1 : Int32) (x2 : Int32) (x3 : Int32) (x4 : Int32) (x5 : Int32) (x6 : Int32) : Option ((Nat × Int32 × Int32 × Int32 × Int32 × Int32 × Int32) ⊕ (Int32)) :=
  if t_persons ≤ x6 then
    Mo_leastSum_j109 t_persons t_comes t_wants x1 x2 x3 x4 x5
  else
    if x4 < x3 then
      Mo_leastSum_j109 t_persons t_comes t_wants x1 x2 x3 x4 x5
    else
      if ((x1 >>> (x6 &&& 31)) &&& 1) = 0 then
        if ck x6 7 = true then
          if x4 < (t_comes x6.toNatClampNeg) then
            Mo_leastSum_j65 t_persons t_comes t_wants x1 x2 x3 x4 x5 x6 0
          else
            Mo_leastSum_j65 t_persons t_comes t_wants x1 x2 x3 x4 x5 x6 1
        else none
      else
        Mo_leastSum_j65 t_persons t_comes t_wants x1 x2 x3 x4 x5 x6 0
noncomputable def Mo_leastSum_s9 (t_persons : Int32) (t_comes : Nat → Int32) (t_wants : Nat → Int32) : (Nat × Int32 × Int32 × Int32 × Int32 × Int32 × Int32) → Option ((Nat × Int32 × Int32 × Int32 × Int32 × Int32 × Int32) ⊕ (Int32)) := fun x => match x.1 with
  | 0 => Mo_leastSum_b9 t_persons t_comes t_wants x.2.1 x.2.2.1 x.2.2.2.1 x.2.2.2.2.1
  | 1 => Mo_leastSum_b24 t_persons t_comes t_wants x.2.1 x.2.2.1 x.2.2.2.1 x.2.2.2.2.1 x.2.2.2.2.2.1 x.2.2.2.2.2.2
  | _ => none
noncomputable def Mo_leastSum_l9 (t_persons : Int32) (t_comes : Nat → Int32) (t_wants : Nat → Int32) (x1 : Int32) (x2 : Int32) (x3 : Int32) (x4 : Int32) : Option (Int32) := fin (Mo_leastSum_s9 t_persons t_comes t_wants) (0, x1, x2, x3, x4, 0, 0)
noncomputable def Mo_leastSum_l24 (t_persons : Int32) (t_comes : Nat → Int32) (t_wants : Nat → Int32) (x1 : Int32) (x2 : Int32) (x3 : Int32) (x4 : Int32) (x5 : Int32) (x6 : Int32) : Option (Int32) := fin (Mo_leastSum_s9 t_persons t_comes t_wants) (1, x1, x2, x3, x4, x5, x6)
noncomputable def Mo_leastSum (t_persons : Int32) (t_comes : Nat → Int32) (t_wants : Nat → Int32) : Option (Int32) :=
  Mo_leastSum_l9 t_persons t_comes t_wants 0 0 0 0
theorem Mo_leastSum_l9_eq (t_persons : Int32) (t_comes : Nat → Int32) (t_wants : Nat → Int32) (x1 : Int32) (x2 : Int32) (x3 : Int32) (x4 : Int32) : Mo_leastSum_l9 t_persons t_comes t_wants x1 x2 x3 x4 = (Mo_leastSum_b9 t_persons t_comes t_wants x1 x2 x3 x4).bind (sg (fin (Mo_leastSum_s9 t_persons t_comes t_wants))) := by
  unfold Mo_leastSum_l9
  exact fin_eq _ _
theorem Mo_leastSum_l9_fd (t_persons : Int32) (t_comes : Nat → Int32) (t_wants : Nat → Int32) (x1 : Int32) (x2 : Int32) (x3 : Int32) (x4 : Int32) : fin (Mo_leastSum_s9 t_persons t_comes t_wants) (0, x1, x2, x3, x4, 0, 0) = Mo_leastSum_l9 t_persons t_comes t_wants x1 x2 x3 x4 := rfl
theorem Mo_leastSum_l24_eq (t_persons : Int32) (t_comes : Nat → Int32) (t_wants : Nat → Int32) (x1 : Int32) (x2 : Int32) (x3 : Int32) (x4 : Int32) (x5 : Int32) (x6 : Int32) : Mo_leastSum_l24 t_persons t_comes t_wants x1 x2 x3 x4 x5 x6 = (Mo_leastSum_b24 t_persons t_comes t_wants x1 x2 x3 x4 x5 x6).bind (sg (fin (Mo_leastSum_s9 t_persons t_comes t_wants))) := by
  unfold Mo_leastSum_l24
  exact fin_eq _ _
theorem Mo_leastSum_l24_fd (t_persons : Int32) (t_comes : Nat → Int32) (t_wants : Nat → Int32) (x1 : Int32) (x2 : Int32) (x3 : Int32) (x4 : Int32) (x5 : Int32) (x6 : Int32) : fin (Mo_leastSum_s9 t_persons t_comes t_wants) (1, x1, x2, x3, x4, x5, x6) = Mo_leastSum_l24 t_persons t_comes t_wants x1 x2 x3 x4 x5 x6 := rfl
set_option maxRecDepth 100000 in
set_option maxHeartbeats 4000000 in
theorem c_Mo_leastSum (l : Launch) (D : va_G) (cI cJ cS : ClassId) (q_t q_t_kindOf q_t_comes q_t_wants q_t_runs q_t_readKind q_t_readComes q_t_readWants q_t_queueNow q_t_servedAt q_t_comesWas q_t_readingOf q_t_readingAt q_t_sheetSize q_t_sheetLane q_t_sheet q_t_hands : Nat) (t_fault : Int32) (t_persons : Int32) (t_law : Int32) (t_bellSet : Int64) (t_readAt : Int32) (t_readLaw : Int32) (t_readMany : Int32) (t_queueMany : Int32) (t_servedNow : Int32) (t_doneAt : Int32) (t_readings : Int32) (t_whichMany : Int32) (t_whichOne : Int32) (t_whichTwo : Int32) (t_traceNow : Int32) (t_comes : Nat → Int32) (t_wants : Nat → Int32) (o : Int32) (hM : Mo_leastSum t_persons t_comes t_wants = some o) : Ci l yX9_leastSum wsX9_leastSum rm_Mo_leastSum D cI cJ cS [.ref q_t] (w_Mo_leastSum cI cJ cS q_t q_t_kindOf q_t_comes q_t_wants q_t_runs q_t_readKind q_t_readComes q_t_readWants q_t_queueNow q_t_servedAt q_t_comesWas q_t_readingOf q_t_readingAt q_t_sheetSize q_t_sheetLane q_t_sheet q_t_hands t_fault t_persons t_law t_bellSet t_readAt t_readLaw t_readMany t_queueMany t_servedNow t_doneAt t_readings t_whichMany t_whichOne t_whichTwo t_traceNow t_comes t_wants) (w_Mo_leastSum cI cJ cS q_t q_t_kindOf q_t_comes q_t_wants q_t_runs q_t_readKind q_t_readComes q_t_readWants q_t_queueNow q_t_servedAt q_t_comesWas q_t_readingOf q_t_readingAt q_t_sheetSize q_t_sheetLane q_t_sheet q_t_hands t_fault t_persons t_law t_bellSet t_readAt t_readLaw t_readMany t_queueMany t_servedNow t_doneAt t_readings t_whichMany t_whichOne t_whichTwo t_traceNow t_comes t_wants) o := by
  refine Ci.of (cc := cX9_leastSum) (maxL := 8) (ret := (some .int)) (by decide) rfl (Nat.le_of_ble_eq_true rfl) ?_
  intro p e s m args below meth c A ls hE
  obtain ⟨hx, hb, hr, hml, hown, hts, hlocks, hK, hA, hP, hD, hS, hl⟩ := hE
  have hown : s.vm.findClass RX9 = some m.cls := hown
  have hl : lv_has ls 8 [(0, .ref q_t)] := hl
  have iX9 : ∀ w ∈ u_ws RX9 TX9 31, w ∈ wsX9_leastSum := by decide +kernel
  have k0 := hts (.fieldLink RX9 68 "TurnQueueModel" "persons" "I") (by decide +kernel)
  have k1 := hts (.fieldLink RX9 13 "TurnQueueModel" "comes" "[I") (by decide +kernel)
  have k2 := hts (.fieldLink RX9 16 "TurnQueueModel" "wants" "[I") (by decide +kernel)
  have L9 : ∀ n : Nat, (∀ (x1 : Int32) (x2 : Int32) (x3 : Int32) (x4 : Int32), itr (Mo_leastSum_s9 t_persons t_comes t_wants) n (0, x1, x2, x3, x4, 0, 0) = some o → ∀ (H : Heap) (locs : List Loc), va_P D vwCl (w_Mo_leastSum cI cJ cS q_t q_t_kindOf q_t_comes q_t_wants q_t_runs q_t_readKind q_t_readComes q_t_readWants q_t_queueNow q_t_servedAt q_t_comesWas q_t_readingOf q_t_readingAt q_t_sheetSize q_t_sheetLane q_t_sheet q_t_hands t_fault t_persons t_law t_bellSet t_readAt t_readLaw t_readMany t_queueMany t_servedNow t_doneAt t_readings t_whichMany t_whichOne t_whichTwo t_traceNow t_comes t_wants) H → va_D A (w_Mo_leastSum cI cJ cS q_t q_t_kindOf q_t_comes q_t_wants q_t_runs q_t_readKind q_t_readComes q_t_readWants q_t_queueNow q_t_servedAt q_t_comesWas q_t_readingOf q_t_readingAt q_t_sheetSize q_t_sheetLane q_t_sheet q_t_hands t_fault t_persons t_law t_bellSet t_readAt t_readLaw t_readMany t_queueMany t_servedNow t_doneAt t_readings t_whichMany t_whichOne t_whichTwo t_traceNow t_comes t_wants) → va_S A s.heap H locs → ∀ ls : Array Slot, lv_has ls 8 [(0, .ref q_t), (1, .int x1), (2, .int x2), (3, .int x3), (4, .int x4)] → W p l e (headSpec wsX9_leastSum rm_Mo_leastSum).room s m args below meth c H locs 0 0 (MQ below (CQi D (w_Mo_leastSum cI cJ cS q_t q_t_kindOf q_t_comes q_t_wants q_t_runs q_t_readKind q_t_readComes q_t_readWants q_t_queueNow q_t_servedAt q_t_comesWas q_t_readingOf q_t_readingAt q_t_sheetSize q_t_sheetLane q_t_sheet q_t_hands t_fault t_persons t_law t_bellSet t_readAt t_readLaw t_readMany t_queueMany t_servedNow t_doneAt t_readings t_whichMany t_whichOne t_whichTwo t_traceNow t_comes t_wants) A o) args s 0 0 A) (F0 m 9 ls [])) ∧ (∀ (x1 : Int32) (x2 : Int32) (x3 : Int32) (x4 : Int32) (x5 : Int32) (x6 : Int32), itr (Mo_leastSum_s9 t_persons t_comes t_wants) n (1, x1, x2, x3, x4, x5, x6) = some o → ∀ (H : Heap) (locs : List Loc), va_P D vwCl (w_Mo_leastSum cI cJ cS q_t q_t_kindOf q_t_comes q_t_wants q_t_runs q_t_readKind q_t_readComes q_t_readWants q_t_queueNow q_t_servedAt q_t_comesWas q_t_readingOf q_t_readingAt q_t_sheetSize q_t_sheetLane q_t_sheet q_t_hands t_fault t_persons t_law t_bellSet t_readAt t_readLaw t_readMany t_queueMany t_servedNow t_doneAt t_readings t_whichMany t_whichOne t_whichTwo t_traceNow t_comes t_wants) H → va_D A (w_Mo_leastSum cI cJ cS q_t q_t_kindOf q_t_comes q_t_wants q_t_runs q_t_readKind q_t_readComes q_t_readWants q_t_queueNow q_t_servedAt q_t_comesWas q_t_readingOf q_t_readingAt q_t_sheetSize q_t_sheetLane q_t_sheet q_t_hands t_fault t_persons t_law t_bellSet t_readAt t_readLaw t_readMany t_queueMany t_servedNow t_doneAt t_readings t_whichMany t_whichOne t_whichTwo t_traceNow t_comes t_wants) → va_S A s.heap H locs → ∀ ls : Array Slot, lv_has ls 8 [(0, .ref q_t), (1, .int x1), (2, .int x2), (3, .int x3), (4, .int x4), (5, .int x5), (6, .int x6)] → W p l e (headSpec wsX9_leastSum rm_Mo_leastSum).room s m args below meth c H locs 0 0 (MQ below (CQi D (w_Mo_leastSum cI cJ cS q_t q_t_kindOf q_t_comes q_t_wants q_t_runs q_t_readKind q_t_readComes q_t_readWants q_t_queueNow q_t_servedAt q_t_comesWas q_t_readingOf q_t_readingAt q_t_sheetSize q_t_sheetLane q_t_sheet q_t_hands t_fault t_persons t_law t_bellSet t_readAt t_readLaw t_readMany t_queueMany t_servedNow t_doneAt t_readings t_whichMany t_whichOne t_whichTwo t_traceNow t_comes t_wants) A o) args s 0 0 A) (F0 m 24 ls [])) := by
    intro n
    induction n with
    | zero => exact ⟨fun _ _ _ _ hM => (itr_0 hM).elim, fun _ _ _ _ _ _ hM => (itr_0 hM).elim⟩
    | succ n ih =>
      have J109 : ∀ (x1 : Int32) (x2 : Int32) (x3 : Int32) (x4 : Int32) (x5 : Int32), (Mo_leastSum_j109 t_persons t_comes t_wants x1 x2 x3 x4 x5).bind (sg (itr (Mo_leastSum_s9 t_persons t_comes t_wants) n)) = some o → ∀ (H : Heap) (locs : List Loc), va_P D vwCl (w_Mo_leastSum cI cJ cS q_t q_t_kindOf q_t_comes q_t_wants q_t_runs q_t_readKind q_t_readComes q_t_readWants q_t_queueNow q_t_servedAt q_t_comesWas q_t_readingOf q_t_readingAt q_t_sheetSize q_t_sheetLane q_t_sheet q_t_hands t_fault t_persons t_law t_bellSet t_readAt t_readLaw t_readMany t_queueMany t_servedNow t_doneAt t_readings t_whichMany t_whichOne t_whichTwo t_traceNow t_comes t_wants) H → va_D A (w_Mo_leastSum cI cJ cS q_t q_t_kindOf q_t_comes q_t_wants q_t_runs q_t_readKind q_t_readComes q_t_readWants q_t_queueNow q_t_servedAt q_t_comesWas q_t_readingOf q_t_readingAt q_t_sheetSize q_t_sheetLane q_t_sheet q_t_hands t_fault t_persons t_law t_bellSet t_readAt t_readLaw t_readMany t_queueMany t_servedNow t_doneAt t_readings t_whichMany t_whichOne t_whichTwo t_traceNow t_comes t_wants) → va_S A s.heap H locs → ∀ ls : Array Slot, lv_has ls 8 [(0, .ref q_t), (1, .int x1), (2, .int x2), (3, .int x3), (4, .int x4), (5, .int x5)] → W p l e (headSpec wsX9_leastSum rm_Mo_leastSum).room s m args below meth c H locs 0 0 (MQ below (CQi D (w_Mo_leastSum cI cJ cS q_t q_t_kindOf q_t_comes q_t_wants q_t_runs q_t_readKind q_t_readComes q_t_readWants q_t_queueNow q_t_servedAt q_t_comesWas q_t_readingOf q_t_readingAt q_t_sheetSize q_t_sheetLane q_t_sheet q_t_hands t_fault t_persons t_law t_bellSet t_readAt t_readLaw t_readMany t_queueMany t_servedNow t_doneAt t_readings t_whichMany t_whichOne t_whichTwo t_traceNow t_comes t_wants) A o) args s 0 0 A) (F0 m 109 ls []) := by
        intro x1 x2 x3 x4 x5 hM H locs hP hD hS ls hl
        unfold Mo_leastSum_j109 at hM
        refine lv_iload hx hb dX9_leastSum_109 (lv_at hl 5 rfl) ?_
        refine lv_if_lt (tgt := 145) hx hb dX9_leastSum_111 (by decide) (fun c3 => ?_) (fun c3 => ?_)
        · have hM := (s_if hM).1 c3
          obtain ⟨y4, ey4⟩ : ∃ y : Int32, y = x4 + 1 := ⟨_, rfl⟩
          have hM := s_lt hM y4 ey4
          refine lv_iinc (v := y4) (lv' := [(4, .int y4), (0, .ref q_t), (1, .int x1), (2, .int x2), (3, .int x3), (5, .int x5)]) hx hb dX9_leastSum_145 hl (k := 4) rfl (by rw [ey4]; rfl) (Nat.le_of_ble_eq_true rfl) rfl (fun ls hl => ?_)
          refine lv_goto (tgt := 9) hx hb dX9_leastSum_148 (by decide) ?_
          exact ih.1 x1 x2 x3 y4 (s_jp hM) _ _ hP hD hS _ (lv_sub hl [1, 2, 3, 4, 0] rfl)
        · have hM := (s_if hM).2 c3
          refine lv_iload_n hx hb dX9_leastSum_114 rfl (lv_at hl 1 rfl) ?_
          refine lv_iconst (v := 1) hx hb dX9_leastSum_115 (by decide) ?_
          refine lv_iload hx hb dX9_leastSum_116 (lv_at hl 5 rfl) ?_
          refine lv_ishl hx hb dX9_leastSum_118 ?_
          refine lv_ior hx hb dX9_leastSum_119 ?_
          refine lv_topi (fun y5 ey5 => ?_)
          have hM := s_lt hM y5 ey5
          refine lv_istore_n (lv' := [(1, .int y5), (0, .ref q_t), (2, .int x2), (3, .int x3), (4, .int x4), (5, .int x5)]) hx hb dX9_leastSum_120 rfl hl (Nat.le_of_ble_eq_true rfl) rfl (fun ls hl => ?_)
          refine lv_iload_n hx hb dX9_leastSum_121 rfl (lv_at hl 2 rfl) ?_
          refine lv_iload hx hb dX9_leastSum_122 (lv_at hl 4 rfl) ?_
          refine lv_aload_n hx hb dX9_leastSum_124 rfl (lv_at hl 1 rfl) ?_
          refine va_get (ci := 8) (v := .ref q_t_comes) (C := RX9) (T := TX9) (N := 31) hx hb hts iX9 hown hK.1 hP 0 rfl rfl 4 (Nat.le_of_ble_eq_true rfl) k1 (fun _ h9 => h9) rfl dX9_leastSum_125 ?_
          refine lv_iload hx hb dX9_leastSum_128 (lv_at hl 5 rfl) ?_
          obtain ⟨h6, hM⟩ := s_ck hM
          refine va_iald hx hb hK.1 hP 1 0 rfl rfl h6 dX9_leastSum_130 ?_
          refine lv_isub hx hb dX9_leastSum_131 ?_
          refine lv_iadd hx hb dX9_leastSum_132 ?_
          refine lv_topi (fun y7 ey7 => ?_)
          have hM := s_lt hM y7 ey7
          refine lv_istore_n (lv' := [(2, .int y7), (1, .int y5), (0, .ref q_t), (3, .int x3), (4, .int x4), (5, .int x5)]) hx hb dX9_leastSum_133 rfl hl (Nat.le_of_ble_eq_true rfl) rfl (fun ls hl => ?_)
          refine lv_iload hx hb dX9_leastSum_134 (lv_at hl 4 rfl) ?_
          refine lv_aload_n hx hb dX9_leastSum_136 rfl (lv_at hl 2 rfl) ?_
          refine va_get (ci := 8) (v := .ref q_t_wants) (C := RX9) (T := TX9) (N := 31) hx hb hts iX9 hown hK.1 hP 0 rfl rfl 5 (Nat.le_of_ble_eq_true rfl) k2 (fun _ h9 => h9) rfl dX9_leastSum_137 ?_
          refine lv_iload hx hb dX9_leastSum_140 (lv_at hl 5 rfl) ?_
          obtain ⟨h8, hM⟩ := s_ck hM
          refine va_iald hx hb hK.1 hP 2 0 rfl rfl h8 dX9_leastSum_142 ?_
          refine lv_iadd hx hb dX9_leastSum_143 ?_
          refine lv_topi (fun y9 ey9 => ?_)
          have hM := s_lt hM y9 ey9
          refine lv_istore_n (lv' := [(3, .int y9), (2, .int y7), (1, .int y5), (0, .ref q_t), (4, .int x4), (5, .int x5)]) hx hb dX9_leastSum_144 rfl hl (Nat.le_of_ble_eq_true rfl) rfl (fun ls hl => ?_)
          obtain ⟨y10, ey10⟩ : ∃ y : Int32, y = x4 + 1 := ⟨_, rfl⟩
          have hM := s_lt hM y10 ey10
          refine lv_iinc (v := y10) (lv' := [(4, .int y10), (3, .int y9), (2, .int y7), (1, .int y5), (0, .ref q_t), (5, .int x5)]) hx hb dX9_leastSum_145 hl (k := 4) rfl (by rw [ey10]; rfl) (Nat.le_of_ble_eq_true rfl) rfl (fun ls hl => ?_)
          refine lv_goto (tgt := 9) hx hb dX9_leastSum_148 (by decide) ?_
          exact ih.1 y5 y7 y9 y10 (s_jp hM) _ _ hP hD hS _ (lv_sub hl [4, 3, 2, 1, 0] rfl)
      have J65 : ∀ (x1 : Int32) (x2 : Int32) (x3 : Int32) (x4 : Int32) (x5 : Int32) (x6 : Int32) (s0 : Int32), (Mo_leastSum_j65 t_persons t_comes t_wants x1 x2 x3 x4 x5 x6 s0).bind (sg (itr (Mo_leastSum_s9 t_persons t_comes t_wants) n)) = some o → ∀ (H : Heap) (locs : List Loc), va_P D vwCl (w_Mo_leastSum cI cJ cS q_t q_t_kindOf q_t_comes q_t_wants q_t_runs q_t_readKind q_t_readComes q_t_readWants q_t_queueNow q_t_servedAt q_t_comesWas q_t_readingOf q_t_readingAt q_t_sheetSize q_t_sheetLane q_t_sheet q_t_hands t_fault t_persons t_law t_bellSet t_readAt t_readLaw t_readMany t_queueMany t_servedNow t_doneAt t_readings t_whichMany t_whichOne t_whichTwo t_traceNow t_comes t_wants) H → va_D A (w_Mo_leastSum cI cJ cS q_t q_t_kindOf q_t_comes q_t_wants q_t_runs q_t_readKind q_t_readComes q_t_readWants q_t_queueNow q_t_servedAt q_t_comesWas q_t_readingOf q_t_readingAt q_t_sheetSize q_t_sheetLane q_t_sheet q_t_hands t_fault t_persons t_law t_bellSet t_readAt t_readLaw t_readMany t_queueMany t_servedNow t_doneAt t_readings t_whichMany t_whichOne t_whichTwo t_traceNow t_comes t_wants) → va_S A s.heap H locs → ∀ ls : Array Slot, lv_has ls 8 [(0, .ref q_t), (1, .int x1), (2, .int x2), (3, .int x3), (4, .int x4), (5, .int x5), (6, .int x6)] → W p l e (headSpec wsX9_leastSum rm_Mo_leastSum).room s m args below meth c H locs 0 0 (MQ below (CQi D (w_Mo_leastSum cI cJ cS q_t q_t_kindOf q_t_comes q_t_wants q_t_runs q_t_readKind q_t_readComes q_t_readWants q_t_queueNow q_t_servedAt q_t_comesWas q_t_readingOf q_t_readingAt q_t_sheetSize q_t_sheetLane q_t_sheet q_t_hands t_fault t_persons t_law t_bellSet t_readAt t_readLaw t_readMany t_queueMany t_servedNow t_doneAt t_readings t_whichMany t_whichOne t_whichTwo t_traceNow t_comes t_wants) A o) args s 0 0 A) (F0 m 65 ls [.int s0]) := by
        intro x1 x2 x3 x4 x5 x6 s0 hM H locs hP hD hS ls hl
        unfold Mo_leastSum_j65 at hM
        refine lv_istore (lv' := [(7, .int s0), (0, .ref q_t), (1, .int x1), (2, .int x2), (3, .int x3), (4, .int x4), (5, .int x5), (6, .int x6)]) hx hb dX9_leastSum_65 hl (Nat.le_of_ble_eq_true rfl) rfl (fun ls hl => ?_)
        refine lv_iload hx hb dX9_leastSum_67 (lv_at hl 0 rfl) ?_
        refine lv_if_eq (tgt := 99) hx hb dX9_leastSum_69 (by decide) (fun c13 => ?_) (fun c13 => ?_)
        · have hM := (s_if hM).1 c13
          refine lv_iload hx hb dX9_leastSum_99 (lv_at hl 6 rfl) ?_
          refine lv_istore (lv' := [(5, .int x5), (7, .int s0), (0, .ref q_t), (1, .int x1), (2, .int x2), (3, .int x3), (4, .int x4), (6, .int x6)]) hx hb dX9_leastSum_101 hl (Nat.le_of_ble_eq_true rfl) rfl (fun ls hl => ?_)
          obtain ⟨y14, ey14⟩ : ∃ y : Int32, y = x6 + 1 := ⟨_, rfl⟩
          have hM := s_lt hM y14 ey14
          refine lv_iinc (v := y14) (lv' := [(6, .int y14), (5, .int x5), (7, .int s0), (0, .ref q_t), (1, .int x1), (2, .int x2), (3, .int x3), (4, .int x4)]) hx hb dX9_leastSum_103 hl (k := 7) rfl (by rw [ey14]; rfl) (Nat.le_of_ble_eq_true rfl) rfl (fun ls hl => ?_)
          refine lv_goto (tgt := 24) hx hb dX9_leastSum_106 (by decide) ?_
          exact ih.2 x1 x2 x3 x4 x5 y14 (s_jp hM) _ _ hP hD hS _ (lv_sub hl [3, 4, 5, 6, 7, 1, 0] rfl)
        · have hM := (s_if hM).2 c13
          refine lv_iload hx hb dX9_leastSum_72 (lv_at hl 6 rfl) ?_
          refine lv_if_lt (tgt := 94) hx hb dX9_leastSum_74 (by decide) (fun c15 => ?_) (fun c15 => ?_)
          · have hM := (s_if hM).1 c15
            refine lv_iload hx hb dX9_leastSum_94 (lv_at hl 7 rfl) ?_
            refine lv_goto (tgt := 101) hx hb dX9_leastSum_96 (by decide) ?_
            refine lv_istore (lv' := [(5, .int x6), (7, .int s0), (0, .ref q_t), (1, .int x1), (2, .int x2), (3, .int x3), (4, .int x4), (6, .int x6)]) hx hb dX9_leastSum_101 hl (Nat.le_of_ble_eq_true rfl) rfl (fun ls hl => ?_)
            obtain ⟨y16, ey16⟩ : ∃ y : Int32, y = x6 + 1 := ⟨_, rfl⟩
            have hM := s_lt hM y16 ey16
            refine lv_iinc (v := y16) (lv' := [(6, .int y16), (5, .int x6), (7, .int s0), (0, .ref q_t), (1, .int x1), (2, .int x2), (3, .int x3), (4, .int x4)]) hx hb dX9_leastSum_103 hl (k := 7) rfl (by rw [ey16]; rfl) (Nat.le_of_ble_eq_true rfl) rfl (fun ls hl => ?_)
            refine lv_goto (tgt := 24) hx hb dX9_leastSum_106 (by decide) ?_
            exact ih.2 x1 x2 x3 x4 x6 y16 (s_jp hM) _ _ hP hD hS _ (lv_sub hl [3, 4, 5, 6, 7, 1, 0] rfl)
          · have hM := (s_if hM).2 c15
            refine lv_aload_n hx hb dX9_leastSum_77 rfl (lv_at hl 1 rfl) ?_
            refine va_get (ci := 8) (v := .ref q_t_wants) (C := RX9) (T := TX9) (N := 31) hx hb hts iX9 hown hK.1 hP 0 rfl rfl 5 (Nat.le_of_ble_eq_true rfl) k2 (fun _ h9 => h9) rfl dX9_leastSum_78 ?_
            refine lv_iload hx hb dX9_leastSum_81 (lv_at hl 7 rfl) ?_
            obtain ⟨h17, hM⟩ := s_ck hM
            refine va_iald hx hb hK.1 hP 2 0 rfl rfl h17 dX9_leastSum_83 ?_
            refine lv_aload_n hx hb dX9_leastSum_84 rfl (lv_at hl 1 rfl) ?_
            refine va_get (ci := 8) (v := .ref q_t_wants) (C := RX9) (T := TX9) (N := 31) hx hb hts iX9 hown hK.1 hP 0 rfl rfl 5 (Nat.le_of_ble_eq_true rfl) k2 (fun _ h9 => h9) rfl dX9_leastSum_85 ?_
            refine lv_iload hx hb dX9_leastSum_88 (lv_at hl 6 rfl) ?_
            obtain ⟨h18, hM⟩ := s_ck hM
            refine va_iald hx hb hK.1 hP 2 0 rfl rfl h18 dX9_leastSum_90 ?_
            refine lv_icmp_ge (tgt := 99) hx hb dX9_leastSum_91 (by decide) (fun c19 => ?_) (fun c19 => ?_)
            · have hM := (s_if hM).1 c19
              refine lv_iload hx hb dX9_leastSum_99 (lv_at hl 6 rfl) ?_
              refine lv_istore (lv' := [(5, .int x5), (7, .int s0), (0, .ref q_t), (1, .int x1), (2, .int x2), (3, .int x3), (4, .int x4), (6, .int x6)]) hx hb dX9_leastSum_101 hl (Nat.le_of_ble_eq_true rfl) rfl (fun ls hl => ?_)
              obtain ⟨y20, ey20⟩ : ∃ y : Int32, y = x6 + 1 := ⟨_, rfl⟩
              have hM := s_lt hM y20 ey20
              refine lv_iinc (v := y20) (lv' := [(6, .int y20), (5, .int x5), (7, .int s0), (0, .ref q_t), (1, .int x1), (2, .int x2), (3, .int x3), (4, .int x4)]) hx hb dX9_leastSum_103 hl (k := 7) rfl (by rw [ey20]; rfl) (Nat.le_of_ble_eq_true rfl) rfl (fun ls hl => ?_)
              refine lv_goto (tgt := 24) hx hb dX9_leastSum_106 (by decide) ?_
              exact ih.2 x1 x2 x3 x4 x5 y20 (s_jp hM) _ _ hP hD hS _ (lv_sub hl [3, 4, 5, 6, 7, 1, 0] rfl)
            · have hM := (s_if hM).2 c19
              refine lv_iload hx hb dX9_leastSum_94 (lv_at hl 7 rfl) ?_
              refine lv_goto (tgt := 101) hx hb dX9_leastSum_96 (by decide) ?_
              refine lv_istore (lv' := [(5, .int x6), (7, .int s0), (0, .ref q_t), (1, .int x1), (2, .int x2), (3, .int x3), (4, .int x4), (6, .int x6)]) hx hb dX9_leastSum_101 hl (Nat.le_of_ble_eq_true rfl) rfl (fun ls hl => ?_)
              obtain ⟨y21, ey21⟩ : ∃ y : Int32, y = x6 + 1 := ⟨_, rfl⟩
              have hM := s_lt hM y21 ey21
              refine lv_iinc (v := y21) (lv' := [(6, .int y21), (5, .int x6), (7, .int s0), (0, .ref q_t), (1, .int x1), (2, .int x2), (3, .int x3), (4, .int x4)]) hx hb dX9_leastSum_103 hl (k := 7) rfl (by rw [ey21]; rfl) (Nat.le_of_ble_eq_true rfl) rfl (fun ls hl => ?_)
              refine lv_goto (tgt := 24) hx hb dX9_leastSum_106 (by decide) ?_
              exact ih.2 x1 x2 x3 x4 x6 y21 (s_jp hM) _ _ hP hD hS _ (lv_sub hl [3, 4, 5, 6, 7, 1, 0] rfl)
      refine ⟨?_, ?_⟩
      · intro x1 x2 x3 x4 hM H locs hP hD hS ls hl
        have hM : (Mo_leastSum_b9 t_persons t_comes t_wants x1 x2 x3 x4).bind (sg (itr (Mo_leastSum_s9 t_persons t_comes t_wants) n)) = some o := hM
        unfold Mo_leastSum_b9 at hM
        refine lv_iload hx hb dX9_leastSum_9 (lv_at hl 4 rfl) ?_
        refine lv_sipush (v := 200) hx hb dX9_leastSum_11 (by decide) ?_
        refine lv_icmp_ge (tgt := 151) hx hb dX9_leastSum_14 (by decide) (fun c1 => ?_) (fun c1 => ?_)
        · have hM := (s_if hM).1 c1
          refine lv_iload_n hx hb dX9_leastSum_151 rfl (lv_at hl 2 rfl) ?_
          have hM := (Option.some.inj (s_rt hM))
          subst hM
          exact rt_i hx hb hr hlocks hP hD hS dX9_leastSum_152
        · have hM := (s_if hM).2 c1
          refine lv_bipush (v := (-9)) hx hb dX9_leastSum_17 (by decide) ?_
          refine lv_istore (lv' := [(5, .int (-9)), (0, .ref q_t), (1, .int x1), (2, .int x2), (3, .int x3), (4, .int x4)]) hx hb dX9_leastSum_19 hl (Nat.le_of_ble_eq_true rfl) rfl (fun ls hl => ?_)
          refine lv_iconst (v := 0) hx hb dX9_leastSum_21 (by decide) ?_
          refine lv_istore (lv' := [(6, .int 0), (5, .int (-9)), (0, .ref q_t), (1, .int x1), (2, .int x2), (3, .int x3), (4, .int x4)]) hx hb dX9_leastSum_22 hl (Nat.le_of_ble_eq_true rfl) rfl (fun ls hl => ?_)
          exact ih.2 x1 x2 x3 x4 (-9) 0 (s_jp hM) _ _ hP hD hS _ (lv_sub hl [2, 3, 4, 5, 6, 1, 0] rfl)
      · intro x1 x2 x3 x4 x5 x6 hM H locs hP hD hS ls hl
        have hM : (Mo_leastSum_b24 t_persons t_comes t_wants x1 x2 x3 x4 x5 x6).bind (sg (itr (Mo_leastSum_s9 t_persons t_comes t_wants) n)) = some o := hM
        unfold Mo_leastSum_b24 at hM
        refine lv_iload hx hb dX9_leastSum_24 (lv_at hl 6 rfl) ?_
        refine lv_aload_n hx hb dX9_leastSum_26 rfl (lv_at hl 0 rfl) ?_
        refine va_get (ci := 8) (v := .int t_persons) (C := RX9) (T := TX9) (N := 31) hx hb hts iX9 hown hK.1 hP 0 rfl rfl 1 (Nat.le_of_ble_eq_true rfl) k0 (fun _ h9 => h9) rfl dX9_leastSum_27 ?_
        refine lv_icmp_ge (tgt := 109) hx hb dX9_leastSum_30 (by decide) (fun c2 => ?_) (fun c2 => ?_)
        · have hM := (s_if hM).1 c2
          exact J109 x1 x2 x3 x4 x5 hM _ _ hP hD hS _ (lv_sub hl [0, 1, 2, 3, 4, 5] rfl)
        · have hM := (s_if hM).2 c2
          refine lv_iload hx hb dX9_leastSum_33 (lv_at hl 4 rfl) ?_
          refine lv_iload_n hx hb dX9_leastSum_35 rfl (lv_at hl 3 rfl) ?_
          refine lv_icmp_lt (tgt := 109) hx hb dX9_leastSum_36 (by decide) (fun c11 => ?_) (fun c11 => ?_)
          · have hM := (s_if hM).1 c11
            exact J109 x1 x2 x3 x4 x5 hM _ _ hP hD hS _ (lv_sub hl [0, 1, 2, 3, 4, 5] rfl)
          · have hM := (s_if hM).2 c11
            refine lv_iload_n hx hb dX9_leastSum_39 rfl (lv_at hl 1 rfl) ?_
            refine lv_iload hx hb dX9_leastSum_40 (lv_at hl 6 rfl) ?_
            refine lv_ishr hx hb dX9_leastSum_42 ?_
            refine lv_iconst (v := 1) hx hb dX9_leastSum_43 (by decide) ?_
            refine lv_iand hx hb dX9_leastSum_44 ?_
            refine lv_if_ne (tgt := 64) hx hb dX9_leastSum_45 (by decide) (fun c12 => ?_) (fun c12 => ?_)
            · have hM := (s_if hM).2 c12
              refine lv_iconst (v := 0) hx hb dX9_leastSum_64 (by decide) ?_
              exact J65 x1 x2 x3 x4 x5 x6 0 hM _ _ hP hD hS _ (lv_sub hl [0, 1, 2, 3, 4, 5, 6] rfl)
            · have hM := (s_if hM).1 c12
              refine lv_aload_n hx hb dX9_leastSum_48 rfl (lv_at hl 0 rfl) ?_
              refine va_get (ci := 8) (v := .ref q_t_comes) (C := RX9) (T := TX9) (N := 31) hx hb hts iX9 hown hK.1 hP 0 rfl rfl 4 (Nat.le_of_ble_eq_true rfl) k1 (fun _ h9 => h9) rfl dX9_leastSum_49 ?_
              refine lv_iload hx hb dX9_leastSum_52 (lv_at hl 6 rfl) ?_
              obtain ⟨h22, hM⟩ := s_ck hM
              refine va_iald hx hb hK.1 hP 1 0 rfl rfl h22 dX9_leastSum_54 ?_
              refine lv_iload hx hb dX9_leastSum_55 (lv_at hl 4 rfl) ?_
              refine lv_icmp_gt (tgt := 64) hx hb dX9_leastSum_57 (by decide) (fun c23 => ?_) (fun c23 => ?_)
              · have hM := (s_if hM).1 c23
                refine lv_iconst (v := 0) hx hb dX9_leastSum_64 (by decide) ?_
                exact J65 x1 x2 x3 x4 x5 x6 0 hM _ _ hP hD hS _ (lv_sub hl [0, 1, 2, 3, 4, 5, 6] rfl)
              · have hM := (s_if hM).2 c23
                refine lv_iconst (v := 1) hx hb dX9_leastSum_60 (by decide) ?_
                refine lv_goto (tgt := 65) hx hb dX9_leastSum_61 (by decide) ?_
                exact J65 x1 x2 x3 x4 x5 x6 1 hM _ _ hP hD hS _ (lv_sub hl [0, 1, 2, 3, 4, 5, 6] rfl)
  have J9 : ∀ (x1 : Int32) (x2 : Int32) (x3 : Int32) (x4 : Int32), Mo_leastSum_l9 t_persons t_comes t_wants x1 x2 x3 x4 = some o → ∀ (H : Heap) (locs : List Loc), va_P D vwCl (w_Mo_leastSum cI cJ cS q_t q_t_kindOf q_t_comes q_t_wants q_t_runs q_t_readKind q_t_readComes q_t_readWants q_t_queueNow q_t_servedAt q_t_comesWas q_t_readingOf q_t_readingAt q_t_sheetSize q_t_sheetLane q_t_sheet q_t_hands t_fault t_persons t_law t_bellSet t_readAt t_readLaw t_readMany t_queueMany t_servedNow t_doneAt t_readings t_whichMany t_whichOne t_whichTwo t_traceNow t_comes t_wants) H → va_D A (w_Mo_leastSum cI cJ cS q_t q_t_kindOf q_t_comes q_t_wants q_t_runs q_t_readKind q_t_readComes q_t_readWants q_t_queueNow q_t_servedAt q_t_comesWas q_t_readingOf q_t_readingAt q_t_sheetSize q_t_sheetLane q_t_sheet q_t_hands t_fault t_persons t_law t_bellSet t_readAt t_readLaw t_readMany t_queueMany t_servedNow t_doneAt t_readings t_whichMany t_whichOne t_whichTwo t_traceNow t_comes t_wants) → va_S A s.heap H locs → ∀ ls : Array Slot, lv_has ls 8 [(0, .ref q_t), (1, .int x1), (2, .int x2), (3, .int x3), (4, .int x4)] → W p l e (headSpec wsX9_leastSum rm_Mo_leastSum).room s m args below meth c H locs 0 0 (MQ below (CQi D (w_Mo_leastSum cI cJ cS q_t q_t_kindOf q_t_comes q_t_wants q_t_runs q_t_readKind q_t_readComes q_t_readWants q_t_queueNow q_t_servedAt q_t_comesWas q_t_readingOf q_t_readingAt q_t_sheetSize q_t_sheetLane q_t_sheet q_t_hands t_fault t_persons t_law t_bellSet t_readAt t_readLaw t_readMany t_queueMany t_servedNow t_doneAt t_readings t_whichMany t_whichOne t_whichTwo t_traceNow t_comes t_wants) A o) args s 0 0 A) (F0 m 9 ls []) := by
    intro x1 x2 x3 x4 hM
    unfold Mo_leastSum_l9 at hM
    obtain ⟨n0, hM⟩ := fin_some hM
    exact (L9 n0).1 x1 x2 x3 x4 hM
  have J24 : ∀ (x1 : Int32) (x2 : Int32) (x3 : Int32) (x4 : Int32) (x5 : Int32) (x6 : Int32), Mo_leastSum_l24 t_persons t_comes t_wants x1 x2 x3 x4 x5 x6 = some o → ∀ (H : Heap) (locs : List Loc), va_P D vwCl (w_Mo_leastSum cI cJ cS q_t q_t_kindOf q_t_comes q_t_wants q_t_runs q_t_readKind q_t_readComes q_t_readWants q_t_queueNow q_t_servedAt q_t_comesWas q_t_readingOf q_t_readingAt q_t_sheetSize q_t_sheetLane q_t_sheet q_t_hands t_fault t_persons t_law t_bellSet t_readAt t_readLaw t_readMany t_queueMany t_servedNow t_doneAt t_readings t_whichMany t_whichOne t_whichTwo t_traceNow t_comes t_wants) H → va_D A (w_Mo_leastSum cI cJ cS q_t q_t_kindOf q_t_comes q_t_wants q_t_runs q_t_readKind q_t_readComes q_t_readWants q_t_queueNow q_t_servedAt q_t_comesWas q_t_readingOf q_t_readingAt q_t_sheetSize q_t_sheetLane q_t_sheet q_t_hands t_fault t_persons t_law t_bellSet t_readAt t_readLaw t_readMany t_queueMany t_servedNow t_doneAt t_readings t_whichMany t_whichOne t_whichTwo t_traceNow t_comes t_wants) → va_S A s.heap H locs → ∀ ls : Array Slot, lv_has ls 8 [(0, .ref q_t), (1, .int x1), (2, .int x2), (3, .int x3), (4, .int x4), (5, .int x5), (6, .int x6)] → W p l e (headSpec wsX9_leastSum rm_Mo_leastSum).room s m args below meth c H locs 0 0 (MQ below (CQi D (w_Mo_leastSum cI cJ cS q_t q_t_kindOf q_t_comes q_t_wants q_t_runs q_t_readKind q_t_readComes q_t_readWants q_t_queueNow q_t_servedAt q_t_comesWas q_t_readingOf q_t_readingAt q_t_sheetSize q_t_sheetLane q_t_sheet q_t_hands t_fault t_persons t_law t_bellSet t_readAt t_readLaw t_readMany t_queueMany t_servedNow t_doneAt t_readings t_whichMany t_whichOne t_whichTwo t_traceNow t_comes t_wants) A o) args s 0 0 A) (F0 m 24 ls []) := by
    intro x1 x2 x3 x4 x5 x6 hM
    unfold Mo_leastSum_l24 at hM
    obtain ⟨n0, hM⟩ := fin_some hM
    exact (L9 n0).2 x1 x2 x3 x4 x5 x6 hM
  unfold Mo_leastSum at hM
  refine lv_iconst (v := 0) hx hb dX9_leastSum_0 (by decide) ?_
  refine lv_istore_n (lv' := [(1, .int 0), (0, .ref q_t)]) hx hb dX9_leastSum_1 rfl hl (Nat.le_of_ble_eq_true rfl) rfl (fun ls hl => ?_)
  refine lv_iconst (v := 0) hx hb dX9_leastSum_2 (by decide) ?_
  refine lv_istore_n (lv' := [(2, .int 0), (1, .int 0), (0, .ref q_t)]) hx hb dX9_leastSum_3 rfl hl (Nat.le_of_ble_eq_true rfl) rfl (fun ls hl => ?_)
  refine lv_iconst (v := 0) hx hb dX9_leastSum_4 (by decide) ?_
  refine lv_istore_n (lv' := [(3, .int 0), (2, .int 0), (1, .int 0), (0, .ref q_t)]) hx hb dX9_leastSum_5 rfl hl (Nat.le_of_ble_eq_true rfl) rfl (fun ls hl => ?_)
  refine lv_iconst (v := 0) hx hb dX9_leastSum_6 (by decide) ?_
  refine lv_istore (lv' := [(4, .int 0), (3, .int 0), (2, .int 0), (1, .int 0), (0, .ref q_t)]) hx hb dX9_leastSum_7 hl (Nat.le_of_ble_eq_true rfl) rfl (fun ls hl => ?_)
  exact J9 0 0 0 0 hM _ _ hP hD hS _ (lv_sub hl [4, 3, 2, 1, 0] rfl)
/-! ===== TurnQueueModel.loss ===== -/
abbrev w_Mo_loss (cI cJ cS : ClassId) (q_t : Nat) (q_t_kindOf : Nat) (q_t_comes : Nat) (q_t_wants : Nat) (q_t_runs : Nat) (q_t_readKind : Nat) (q_t_readComes : Nat) (q_t_readWants : Nat) (q_t_queueNow : Nat) (q_t_servedAt : Nat) (q_t_comesWas : Nat) (q_t_readingOf : Nat) (q_t_readingAt : Nat) (q_t_sheetSize : Nat) (q_t_sheetLane : Nat) (q_t_sheet : Nat) (q_t_hands : Nat) (t_fault : Int32) (t_persons : Int32) (t_law : Int32) (t_bellSet : Int64) (t_readAt : Int32) (t_readLaw : Int32) (t_readMany : Int32) (t_queueMany : Int32) (t_servedNow : Int32) (t_doneAt : Int32) (t_readings : Int32) (t_whichMany : Int32) (t_whichOne : Int32) (t_whichTwo : Int32) (t_traceNow : Int32) (t_kindOf : Nat → Int32) (t_comes : Nat → Int32) (t_wants : Nat → Int32) (t_runs : Nat → Int32) (t_queueNow : Nat → Int32) (t_servedAt : Nat → Int32) : va_W := [(q_t, .inr (8, [.int t_fault, .int t_persons, .int t_law, .ref q_t_kindOf, .ref q_t_comes, .ref q_t_wants, .ref q_t_runs, .long t_bellSet, .int t_readAt, .int t_readLaw, .int t_readMany, .ref q_t_readKind, .ref q_t_readComes, .ref q_t_readWants, .ref q_t_queueNow, .int t_queueMany, .int t_servedNow, .int t_doneAt, .ref q_t_servedAt, .ref q_t_comesWas, .int t_readings, .ref q_t_readingOf, .ref q_t_readingAt, .int t_whichMany, .int t_whichOne, .int t_whichTwo, .ref q_t_sheetSize, .ref q_t_sheetLane, .ref q_t_sheet, .ref q_t_hands, .int t_traceNow])), (q_t_kindOf, ar cI 7 t_kindOf), (q_t_comes, ar cI 7 t_comes), (q_t_wants, ar cI 7 t_wants), (q_t_runs, ar cI 7 t_runs), (q_t_queueNow, ar cI 7 t_queueNow), (q_t_servedAt, ar cI 7 t_servedAt)]
abbrev rm_Mo_loss : Room := { frames := 6, cells := 0, slots := 0, locals := 136 }
noncomputable def Mo_loss (t_persons : Int32) (t_law : Int32) (t_bellSet : Int64) (t_kindOf : Nat → Int32) (t_comes : Nat → Int32) (t_wants : Nat → Int32) (t_runs : Nat → Int32) (t_queueMany : Int32) (t_servedNow : Int32) (t_doneAt : Int32) (t_queueNow : Nat → Int32) (t_servedAt : Nat → Int32) : Option (Int32 × Int32 × Int32 × Int32 × (Nat → Int32) × (Nat → Int32)) :=
  if t_persons = 0 then
    some ((-3), t_queueMany, t_servedNow, t_doneAt, t_queueNow, t_servedAt)
  else
    (Mo_waitSum t_persons t_law t_bellSet t_kindOf t_comes t_wants t_runs t_queueMany t_servedNow t_doneAt t_queueNow t_servedAt).bind fun y2 =>
    (Mo_leastSum t_persons t_comes t_wants).bind fun y4 =>
    some ((y2.1 - y4) + 10000, y2.2.1, y2.2.2.1, y2.2.2.2.1, y2.2.2.2.2.1, y2.2.2.2.2.2)
set_option maxRecDepth 100000 in
set_option maxHeartbeats 4000000 in
theorem c_Mo_loss (l : Launch) (D : va_G) (cI cJ cS : ClassId) (q_t q_t_kindOf q_t_comes q_t_wants q_t_runs q_t_readKind q_t_readComes q_t_readWants q_t_queueNow q_t_servedAt q_t_comesWas q_t_readingOf q_t_readingAt q_t_sheetSize q_t_sheetLane q_t_sheet q_t_hands : Nat) (t_fault : Int32) (t_persons : Int32) (t_law : Int32) (t_bellSet : Int64) (t_readAt : Int32) (t_readLaw : Int32) (t_readMany : Int32) (t_queueMany : Int32) (t_servedNow : Int32) (t_doneAt : Int32) (t_readings : Int32) (t_whichMany : Int32) (t_whichOne : Int32) (t_whichTwo : Int32) (t_traceNow : Int32) (t_kindOf : Nat → Int32) (t_comes : Nat → Int32) (t_wants : Nat → Int32) (t_runs : Nat → Int32) (t_queueNow : Nat → Int32) (t_servedAt : Nat → Int32) (o : Int32 × Int32 × Int32 × Int32 × (Nat → Int32) × (Nat → Int32)) (hM : Mo_loss t_persons t_law t_bellSet t_kindOf t_comes t_wants t_runs t_queueMany t_servedNow t_doneAt t_queueNow t_servedAt = some o) : Ci l yX9_loss wsX9_loss rm_Mo_loss D cI cJ cS [.ref q_t] (w_Mo_loss cI cJ cS q_t q_t_kindOf q_t_comes q_t_wants q_t_runs q_t_readKind q_t_readComes q_t_readWants q_t_queueNow q_t_servedAt q_t_comesWas q_t_readingOf q_t_readingAt q_t_sheetSize q_t_sheetLane q_t_sheet q_t_hands t_fault t_persons t_law t_bellSet t_readAt t_readLaw t_readMany t_queueMany t_servedNow t_doneAt t_readings t_whichMany t_whichOne t_whichTwo t_traceNow t_kindOf t_comes t_wants t_runs t_queueNow t_servedAt) (w_Mo_loss cI cJ cS q_t q_t_kindOf q_t_comes q_t_wants q_t_runs q_t_readKind q_t_readComes q_t_readWants q_t_queueNow q_t_servedAt q_t_comesWas q_t_readingOf q_t_readingAt q_t_sheetSize q_t_sheetLane q_t_sheet q_t_hands t_fault t_persons t_law t_bellSet t_readAt t_readLaw t_readMany o.2.1 o.2.2.1 o.2.2.2.1 t_readings t_whichMany t_whichOne t_whichTwo t_traceNow t_kindOf t_comes t_wants t_runs o.2.2.2.2.1 o.2.2.2.2.2) o.1 := by
  refine Ci.of (cc := cX9_loss) (maxL := 1) (ret := (some .int)) (by decide) rfl (Nat.le_of_ble_eq_true rfl) ?_
  intro p e s m args below meth c A ls hE
  obtain ⟨hx, hb, hr, hml, hown, hts, hlocks, hK, hA, hP, hD, hS, hl⟩ := hE
  have hown : s.vm.findClass RX9 = some m.cls := hown
  have hl : lv_has ls 1 [(0, .ref q_t)] := hl
  have iX9 : ∀ w ∈ u_ws RX9 TX9 31, w ∈ wsX9_loss := by decide +kernel
  have k0 := hts (.fieldLink RX9 68 "TurnQueueModel" "persons" "I") (by decide +kernel)
  unfold Mo_loss at hM
  refine lv_aload_n hx hb dX9_loss_0 rfl (lv_at hl 0 rfl) ?_
  refine va_get (ci := 8) (v := .int t_persons) (C := RX9) (T := TX9) (N := 31) hx hb hts iX9 hown hK.1 hP 0 rfl rfl 1 (Nat.le_of_ble_eq_true rfl) k0 (fun _ h9 => h9) rfl dX9_loss_1 ?_
  refine lv_if_ne (tgt := 12) hx hb dX9_loss_4 (by decide) (fun c1 => ?_) (fun c1 => ?_)
  · have hM := (o_if hM).2 c1
    refine lv_aload_n hx hb dX9_loss_12 rfl (lv_at hl 0 rfl) ?_
    obtain ⟨y2, h3, hM⟩ := o_bd hM
    refine af_i (ws2 := (w_Mo_loss cI cJ cS q_t q_t_kindOf q_t_comes q_t_wants q_t_runs q_t_readKind q_t_readComes q_t_readWants q_t_queueNow q_t_servedAt q_t_comesWas q_t_readingOf q_t_readingAt q_t_sheetSize q_t_sheetLane q_t_sheet q_t_hands t_fault t_persons t_law t_bellSet t_readAt t_readLaw t_readMany y2.2.1 y2.2.2.1 y2.2.2.2.1 t_readings t_whichMany t_whichOne t_whichTwo t_traceNow t_kindOf t_comes t_wants t_runs y2.2.2.2.2.1 y2.2.2.2.2.2)) (va_runV (As := []) (rest := []) ⟨hx, hb, hml, hown, hts⟩ (c_Mo_waitSum l D cI cJ cS q_t q_t_kindOf q_t_comes q_t_wants q_t_runs q_t_readKind q_t_readComes q_t_readWants q_t_queueNow q_t_servedAt q_t_comesWas q_t_readingOf q_t_readingAt q_t_sheetSize q_t_sheetLane q_t_sheet q_t_hands t_fault t_persons t_law t_bellSet t_readAt t_readLaw t_readMany t_queueMany t_servedNow t_doneAt t_readings t_whichMany t_whichOne t_whichTwo t_traceNow t_kindOf t_comes t_wants t_runs t_queueNow t_servedAt y2 h3 _) (cwV 0 hts gX9_loss_X9_waitSum rfl rfl rfl (by decide +kernel) ⟨(Nat.le_of_ble_eq_true rfl), (Nat.le_of_ble_eq_true rfl)⟩) (pre_V hK hP hD [0, 1, 2, 3, 4, 5, 6] rfl rfl rfl rfl) rfl rfl hl.1 rfl (lv_room (Nat.le_of_ble_eq_true rfl)) dX9_loss_13 ⟨Nat.zero_le _, Nat.zero_le _⟩) hP hD hS hA [0, 1, 2, 3, 4, 5, 6] [] [0, 1, 2, 3, 4, 5, 6] rfl rfl rfl (by decide) rfl rfl (fun H locs hP hD hS => ?_)
    refine lv_aload_n hx hb dX9_loss_16 rfl (lv_at hl 0 rfl) ?_
    obtain ⟨y4, h5, hM⟩ := o_bd hM
    refine af_i (ws2 := (w_Mo_loss cI cJ cS q_t q_t_kindOf q_t_comes q_t_wants q_t_runs q_t_readKind q_t_readComes q_t_readWants q_t_queueNow q_t_servedAt q_t_comesWas q_t_readingOf q_t_readingAt q_t_sheetSize q_t_sheetLane q_t_sheet q_t_hands t_fault t_persons t_law t_bellSet t_readAt t_readLaw t_readMany y2.2.1 y2.2.2.1 y2.2.2.2.1 t_readings t_whichMany t_whichOne t_whichTwo t_traceNow t_kindOf t_comes t_wants t_runs y2.2.2.2.2.1 y2.2.2.2.2.2)) (va_runV (As := []) (rest := [.int y2.1]) ⟨hx, hb, hml, hown, hts⟩ (c_Mo_leastSum l D cI cJ cS q_t q_t_kindOf q_t_comes q_t_wants q_t_runs q_t_readKind q_t_readComes q_t_readWants q_t_queueNow q_t_servedAt q_t_comesWas q_t_readingOf q_t_readingAt q_t_sheetSize q_t_sheetLane q_t_sheet q_t_hands t_fault t_persons t_law t_bellSet t_readAt t_readLaw t_readMany y2.2.1 y2.2.2.1 y2.2.2.2.1 t_readings t_whichMany t_whichOne t_whichTwo t_traceNow t_comes t_wants y4 h5 _) (cwV 0 hts gX9_loss_X9_leastSum rfl rfl rfl (by decide +kernel) ⟨(Nat.le_of_ble_eq_true rfl), (Nat.le_of_ble_eq_true rfl)⟩) (pre_V hK hP hD [0, 2, 3] rfl rfl rfl rfl) rfl rfl hl.1 rfl (lv_room (Nat.le_of_ble_eq_true rfl)) dX9_loss_17 ⟨Nat.zero_le _, Nat.zero_le _⟩) hP hD hS hA [0, 2, 3] [1, 4, 5, 6] [4, 0, 5, 6, 1, 2, 3] rfl rfl rfl (by decide) rfl rfl (fun H locs hP hD hS => ?_)
    refine lv_isub hx hb dX9_loss_20 ?_
    refine lv_sipush (v := 10000) hx hb dX9_loss_21 (by decide) ?_
    refine lv_iadd hx hb dX9_loss_24 ?_
    have hM := (Option.some.inj hM)
    subst hM
    exact rt_i hx hb hr hlocks hP hD hS dX9_loss_25
  · have hM := (o_if hM).1 c1
    refine lv_bipush (v := (-3)) hx hb dX9_loss_7 (by decide) ?_
    refine lv_goto (tgt := 25) hx hb dX9_loss_9 (by decide) ?_
    have hM := (Option.some.inj hM)
    subst hM
    exact rt_i hx hb hr hlocks hP hD hS dX9_loss_25
/-! ===== TurnQueueModel.bits ===== -/
abbrev w_Mo_bits (cI cJ cS : ClassId) : va_W := []
abbrev rm_Mo_bits : Room := { frames := 0, cells := 0, slots := 0, locals := 0 }
noncomputable def Mo_bits_b4 (p_set : Int32) (x1 : Int32) (x2 : Int32) : Option ((Int32 × Int32) ⊕ (Int32)) :=
  if x2 ≤ 0 then
    some (.inr x1)
  else
    lt (x1 + (x2 &&& 1)) fun y2 =>
    lt (x2 >>> (1 &&& 31)) fun y3 =>
    some (.inl (y2, y3))
noncomputable def Mo_bits_s4 (p_set : Int32) : (Int32 × Int32) → Option ((Int32 × Int32) ⊕ (Int32)) := fun x => Mo_bits_b4 p_set x.1 x.2
noncomputable def Mo_bits_l4 (p_set : Int32) (x1 : Int32) (x2 : Int32) : Option (Int32) := fin (Mo_bits_s4 p_set) (x1, x2)
noncomputable def Mo_bits (p_set : Int32) : Option (Int32) :=
  Mo_bits_l4 p_set 0 p_set
theorem Mo_bits_l4_eq (p_set : Int32) (x1 : Int32) (x2 : Int32) : Mo_bits_l4 p_set x1 x2 = (Mo_bits_b4 p_set x1 x2).bind (sg (fin (Mo_bits_s4 p_set))) := by
  unfold Mo_bits_l4
  exact fin_eq _ _
theorem Mo_bits_l4_fd (p_set : Int32) (x1 : Int32) (x2 : Int32) : fin (Mo_bits_s4 p_set) (x1, x2) = Mo_bits_l4 p_set x1 x2 := rfl
set_option maxRecDepth 100000 in
set_option maxHeartbeats 4000000 in
theorem c_Mo_bits (l : Launch) (D : va_G) (cI cJ cS : ClassId) (p_set : Int32) (o : Int32) (hM : Mo_bits p_set = some o) : Ci l yX9_bits wsX9_bits rm_Mo_bits D cI cJ cS [.int p_set] (w_Mo_bits cI cJ cS) (w_Mo_bits cI cJ cS) o := by
  refine Ci.of (cc := cX9_bits) (maxL := 3) (ret := (some .int)) (by decide) rfl (Nat.le_of_ble_eq_true rfl) ?_
  intro p e s m args below meth c A ls hE
  obtain ⟨hx, hb, hr, hml, hown, hts, hlocks, hK, hA, hP, hD, hS, hl⟩ := hE
  have hown : s.vm.findClass RX9 = some m.cls := hown
  have hl : lv_has ls 3 [(0, .int p_set)] := hl
  have L4 : ∀ n : Nat, (∀ (x1 : Int32) (x2 : Int32), itr (Mo_bits_s4 p_set) n (x1, x2) = some o → ∀ (H : Heap) (locs : List Loc), va_P D vwCl (w_Mo_bits cI cJ cS) H → va_D A (w_Mo_bits cI cJ cS) → va_S A s.heap H locs → ∀ ls : Array Slot, lv_has ls 3 [(1, .int x1), (2, .int x2)] → W p l e (headSpec wsX9_bits rm_Mo_bits).room s m args below meth c H locs 0 0 (MQ below (CQi D (w_Mo_bits cI cJ cS) A o) args s 0 0 A) (F0 m 4 ls [])) := by
    intro n
    induction n with
    | zero => exact fun _ _ hM => (itr_0 hM).elim
    | succ n ih =>
      intro x1 x2 hM H locs hP hD hS ls hl
      have hM : (Mo_bits_b4 p_set x1 x2).bind (sg (itr (Mo_bits_s4 p_set) n)) = some o := hM
      unfold Mo_bits_b4 at hM
      refine lv_iload_n hx hb dX9_bits_4 rfl (lv_at hl 1 rfl) ?_
      refine lv_if_le (tgt := 21) hx hb dX9_bits_5 (by decide) (fun c1 => ?_) (fun c1 => ?_)
      · have hM := (s_if hM).1 c1
        refine lv_iload_n hx hb dX9_bits_21 rfl (lv_at hl 0 rfl) ?_
        have hM := (Option.some.inj (s_rt hM))
        subst hM
        exact rt_i hx hb hr hlocks hP hD hS dX9_bits_22
      · have hM := (s_if hM).2 c1
        refine lv_iload_n hx hb dX9_bits_8 rfl (lv_at hl 0 rfl) ?_
        refine lv_iload_n hx hb dX9_bits_9 rfl (lv_at hl 1 rfl) ?_
        refine lv_iconst (v := 1) hx hb dX9_bits_10 (by decide) ?_
        refine lv_iand hx hb dX9_bits_11 ?_
        refine lv_iadd hx hb dX9_bits_12 ?_
        refine lv_topi (fun y2 ey2 => ?_)
        have hM := s_lt hM y2 ey2
        refine lv_istore_n (lv' := [(1, .int y2), (2, .int x2)]) hx hb dX9_bits_13 rfl hl (Nat.le_of_ble_eq_true rfl) rfl (fun ls hl => ?_)
        refine lv_iload_n hx hb dX9_bits_14 rfl (lv_at hl 1 rfl) ?_
        refine lv_iconst (v := 1) hx hb dX9_bits_15 (by decide) ?_
        refine lv_ishr hx hb dX9_bits_16 ?_
        refine lv_topi (fun y3 ey3 => ?_)
        have hM := s_lt hM y3 ey3
        refine lv_istore_n (lv' := [(2, .int y3), (1, .int y2)]) hx hb dX9_bits_17 rfl hl (Nat.le_of_ble_eq_true rfl) rfl (fun ls hl => ?_)
        refine lv_goto (tgt := 4) hx hb dX9_bits_18 (by decide) ?_
        exact ih y2 y3 (s_jp hM) _ _ hP hD hS _ (lv_sub hl [1, 0] rfl)
  have J4 : ∀ (x1 : Int32) (x2 : Int32), Mo_bits_l4 p_set x1 x2 = some o → ∀ (H : Heap) (locs : List Loc), va_P D vwCl (w_Mo_bits cI cJ cS) H → va_D A (w_Mo_bits cI cJ cS) → va_S A s.heap H locs → ∀ ls : Array Slot, lv_has ls 3 [(1, .int x1), (2, .int x2)] → W p l e (headSpec wsX9_bits rm_Mo_bits).room s m args below meth c H locs 0 0 (MQ below (CQi D (w_Mo_bits cI cJ cS) A o) args s 0 0 A) (F0 m 4 ls []) := by
    intro x1 x2 hM
    unfold Mo_bits_l4 at hM
    obtain ⟨n0, hM⟩ := fin_some hM
    exact (L4 n0) x1 x2 hM
  unfold Mo_bits at hM
  refine lv_iconst (v := 0) hx hb dX9_bits_0 (by decide) ?_
  refine lv_istore_n (lv' := [(1, .int 0), (0, .int p_set)]) hx hb dX9_bits_1 rfl hl (Nat.le_of_ble_eq_true rfl) rfl (fun ls hl => ?_)
  refine lv_iload_n hx hb dX9_bits_2 rfl (lv_at hl 1 rfl) ?_
  refine lv_istore_n (lv' := [(2, .int p_set), (1, .int 0), (0, .int p_set)]) hx hb dX9_bits_3 rfl hl (Nat.le_of_ble_eq_true rfl) rfl (fun ls hl => ?_)
  exact J4 0 p_set hM _ _ hP hD hS _ (lv_sub hl [1, 0] rfl)
/-! ===== TurnQueueModel.traced ===== -/
abbrev w_Mo_traced (cI cJ cS : ClassId) (q_t : Nat) (q_t_kindOf : Nat) (q_t_comes : Nat) (q_t_wants : Nat) (q_t_runs : Nat) (q_t_readKind : Nat) (q_t_readComes : Nat) (q_t_readWants : Nat) (q_t_queueNow : Nat) (q_t_servedAt : Nat) (q_t_comesWas : Nat) (q_t_readingOf : Nat) (q_t_readingAt : Nat) (q_t_sheetSize : Nat) (q_t_sheetLane : Nat) (q_t_sheet : Nat) (q_t_hands : Nat) (t_fault : Int32) (t_persons : Int32) (t_law : Int32) (t_bellSet : Int64) (t_readAt : Int32) (t_readLaw : Int32) (t_readMany : Int32) (t_queueMany : Int32) (t_servedNow : Int32) (t_doneAt : Int32) (t_readings : Int32) (t_whichMany : Int32) (t_whichOne : Int32) (t_whichTwo : Int32) (t_traceNow : Int32) : va_W := [(q_t, .inr (8, [.int t_fault, .int t_persons, .int t_law, .ref q_t_kindOf, .ref q_t_comes, .ref q_t_wants, .ref q_t_runs, .long t_bellSet, .int t_readAt, .int t_readLaw, .int t_readMany, .ref q_t_readKind, .ref q_t_readComes, .ref q_t_readWants, .ref q_t_queueNow, .int t_queueMany, .int t_servedNow, .int t_doneAt, .ref q_t_servedAt, .ref q_t_comesWas, .int t_readings, .ref q_t_readingOf, .ref q_t_readingAt, .int t_whichMany, .int t_whichOne, .int t_whichTwo, .ref q_t_sheetSize, .ref q_t_sheetLane, .ref q_t_sheet, .ref q_t_hands, .int t_traceNow]))]
abbrev rm_Mo_traced : Room := { frames := 0, cells := 0, slots := 0, locals := 0 }
noncomputable def Mo_traced (p_n : Int32) (t_traceNow : Int32) : Option (Int32) :=
  lt ((31 * t_traceNow) + p_n) fun y1 =>
  some y1
set_option maxRecDepth 100000 in
set_option maxHeartbeats 4000000 in
theorem c_Mo_traced (l : Launch) (D : va_G) (cI cJ cS : ClassId) (q_t q_t_kindOf q_t_comes q_t_wants q_t_runs q_t_readKind q_t_readComes q_t_readWants q_t_queueNow q_t_servedAt q_t_comesWas q_t_readingOf q_t_readingAt q_t_sheetSize q_t_sheetLane q_t_sheet q_t_hands : Nat) (t_fault : Int32) (t_persons : Int32) (t_law : Int32) (t_bellSet : Int64) (t_readAt : Int32) (t_readLaw : Int32) (t_readMany : Int32) (t_queueMany : Int32) (t_servedNow : Int32) (t_doneAt : Int32) (t_readings : Int32) (t_whichMany : Int32) (t_whichOne : Int32) (t_whichTwo : Int32) (t_traceNow : Int32) (p_n : Int32) (o : Int32) (hM : Mo_traced p_n t_traceNow = some o) : Cv l yX9_traced wsX9_traced rm_Mo_traced D cI cJ cS [.ref q_t, .int p_n] (w_Mo_traced cI cJ cS q_t q_t_kindOf q_t_comes q_t_wants q_t_runs q_t_readKind q_t_readComes q_t_readWants q_t_queueNow q_t_servedAt q_t_comesWas q_t_readingOf q_t_readingAt q_t_sheetSize q_t_sheetLane q_t_sheet q_t_hands t_fault t_persons t_law t_bellSet t_readAt t_readLaw t_readMany t_queueMany t_servedNow t_doneAt t_readings t_whichMany t_whichOne t_whichTwo t_traceNow) (w_Mo_traced cI cJ cS q_t q_t_kindOf q_t_comes q_t_wants q_t_runs q_t_readKind q_t_readComes q_t_readWants q_t_queueNow q_t_servedAt q_t_comesWas q_t_readingOf q_t_readingAt q_t_sheetSize q_t_sheetLane q_t_sheet q_t_hands t_fault t_persons t_law t_bellSet t_readAt t_readLaw t_readMany t_queueMany t_servedNow t_doneAt t_readings t_whichMany t_whichOne t_whichTwo o) := by
  refine Cv.of (cc := cX9_traced) (maxL := 2) (ret := none) (by decide) rfl (Nat.le_of_ble_eq_true rfl) ?_
  intro p e s m args below meth c A ls hE
  obtain ⟨hx, hb, hr, hml, hown, hts, hlocks, hK, hA, hP, hD, hS, hl⟩ := hE
  have hown : s.vm.findClass RX9 = some m.cls := hown
  have hl : lv_has ls 2 [(0, .ref q_t), (1, .int p_n)] := hl
  have iX9 : ∀ w ∈ u_ws RX9 TX9 31, w ∈ wsX9_traced := by decide +kernel
  have k0 := hts (.fieldLink RX9 234 "TurnQueueModel" "traceNow" "I") (by decide +kernel)
  unfold Mo_traced at hM
  refine lv_aload_n hx hb dX9_traced_0 rfl (lv_at hl 0 rfl) ?_
  refine lv_bipush (v := 31) hx hb dX9_traced_1 (by decide) ?_
  refine lv_aload_n hx hb dX9_traced_3 rfl (lv_at hl 0 rfl) ?_
  refine va_get (ci := 8) (v := .int t_traceNow) (C := RX9) (T := TX9) (N := 31) hx hb hts iX9 hown hK.1 hP 0 rfl rfl 30 (Nat.le_of_ble_eq_true rfl) k0 (fun _ h9 => h9) rfl dX9_traced_4 ?_
  refine lv_imul hx hb dX9_traced_7 ?_
  refine lv_iload_n hx hb dX9_traced_8 rfl (lv_at hl 1 rfl) ?_
  refine lv_iadd hx hb dX9_traced_9 ?_
  refine lv_topi (fun y1 ey1 => ?_)
  have hM := o_lt hM y1 ey1
  refine va_put (ci := 8) (v := .int y1) (ty := .int) (C := RX9) (T := TX9) (N := 31) hx hb hts iX9 tyX9 tyX9_ok nmX9 hown hK.1 hP hD hS 0 rfl rfl 30 (Nat.le_of_ble_eq_true rfl) k0 (fun _ h9 => h9) rfl (tyX9_ok 30 (Nat.le_of_ble_eq_true rfl)) rfl rfl (Nat.le_of_ble_eq_true rfl) dX9_traced_10 (fun H locs hP hD hS => ?_)
  have hP : va_P D vwCl (w_Mo_traced cI cJ cS q_t q_t_kindOf q_t_comes q_t_wants q_t_runs q_t_readKind q_t_readComes q_t_readWants q_t_queueNow q_t_servedAt q_t_comesWas q_t_readingOf q_t_readingAt q_t_sheetSize q_t_sheetLane q_t_sheet q_t_hands t_fault t_persons t_law t_bellSet t_readAt t_readLaw t_readMany t_queueMany t_servedNow t_doneAt t_readings t_whichMany t_whichOne t_whichTwo y1) H := hP
  have hD : va_D A (w_Mo_traced cI cJ cS q_t q_t_kindOf q_t_comes q_t_wants q_t_runs q_t_readKind q_t_readComes q_t_readWants q_t_queueNow q_t_servedAt q_t_comesWas q_t_readingOf q_t_readingAt q_t_sheetSize q_t_sheetLane q_t_sheet q_t_hands t_fault t_persons t_law t_bellSet t_readAt t_readLaw t_readMany t_queueMany t_servedNow t_doneAt t_readings t_whichMany t_whichOne t_whichTwo y1) := hD
  have hM := (Option.some.inj hM)
  subst hM
  exact rt_v hx hb hr hlocks hP hD hS dX9_traced_13
/-! ===== TurnQueueModel.tell ===== -/
abbrev w_Mo_tell (cI cJ cS : ClassId) (q_t : Nat) (q_t_kindOf : Nat) (q_t_comes : Nat) (q_t_wants : Nat) (q_t_runs : Nat) (q_t_readKind : Nat) (q_t_readComes : Nat) (q_t_readWants : Nat) (q_t_queueNow : Nat) (q_t_servedAt : Nat) (q_t_comesWas : Nat) (q_t_readingOf : Nat) (q_t_readingAt : Nat) (q_t_sheetSize : Nat) (q_t_sheetLane : Nat) (q_t_sheet : Nat) (q_t_hands : Nat) (t_fault : Int32) (t_persons : Int32) (t_law : Int32) (t_bellSet : Int64) (t_readAt : Int32) (t_readLaw : Int32) (t_readMany : Int32) (t_queueMany : Int32) (t_servedNow : Int32) (t_doneAt : Int32) (t_readings : Int32) (t_whichMany : Int32) (t_whichOne : Int32) (t_whichTwo : Int32) (t_traceNow : Int32) (t_kindOf : Nat → Int32) (t_wants : Nat → Int32) : va_W := [(q_t, .inr (8, [.int t_fault, .int t_persons, .int t_law, .ref q_t_kindOf, .ref q_t_comes, .ref q_t_wants, .ref q_t_runs, .long t_bellSet, .int t_readAt, .int t_readLaw, .int t_readMany, .ref q_t_readKind, .ref q_t_readComes, .ref q_t_readWants, .ref q_t_queueNow, .int t_queueMany, .int t_servedNow, .int t_doneAt, .ref q_t_servedAt, .ref q_t_comesWas, .int t_readings, .ref q_t_readingOf, .ref q_t_readingAt, .int t_whichMany, .int t_whichOne, .int t_whichTwo, .ref q_t_sheetSize, .ref q_t_sheetLane, .ref q_t_sheet, .ref q_t_hands, .int t_traceNow])), (q_t_kindOf, ar cI 7 t_kindOf), (q_t_wants, ar cI 7 t_wants)]
abbrev rm_Mo_tell : Room := { frames := 2, cells := 0, slots := 0, locals := 46 }
noncomputable def Mo_tell_j51 (p_p : Int32) (t_persons : Int32) (t_kindOf : Nat → Int32) (t_wants : Nat → Int32) (x2 : Int32) (t_traceNow : Int32) : Option (Int32 × Int32) :=
  if ck p_p 7 = true then
    lt (t_wants p_p.toNatClampNeg) fun y12 =>
    if x2 = 0 then
      some (y12, t_traceNow)
    else
      if x2 = 1 then
        some (y12 + 100, t_traceNow)
      else
        some ((2 * y12) + 100, t_traceNow)
  else none
noncomputable def Mo_tell_j36 (p_p : Int32) (t_persons : Int32) (t_kindOf : Nat → Int32) (t_wants : Nat → Int32) (x2 : Int32) (t_traceNow : Int32) : Option (Int32 × Int32) :=
  (Mo_traced 1 t_traceNow).bind fun y8 =>
  if x2 = 2 then
    (Mo_traced 1 y8).bind fun y15 =>
    Mo_tell_j51 p_p t_persons t_kindOf t_wants x2 y15
  else
    Mo_tell_j51 p_p t_persons t_kindOf t_wants x2 y8
noncomputable def Mo_tell_j27 (p_p : Int32) (t_persons : Int32) (t_kindOf : Nat → Int32) (t_wants : Nat → Int32) (x2 : Int32) (t_traceNow : Int32) : Option (Int32 × Int32) :=
  if x2 ≤ 0 then
    Mo_tell_j36 p_p t_persons t_kindOf t_wants x2 t_traceNow
  else
    (Mo_traced 2 t_traceNow).bind fun y17 =>
    Mo_tell_j36 p_p t_persons t_kindOf t_wants x2 y17
noncomputable def Mo_tell (p_p : Int32) (t_persons : Int32) (t_kindOf : Nat → Int32) (t_wants : Nat → Int32) (t_traceNow : Int32) : Option (Int32 × Int32) :=
  (Mo_noPerson p_p t_persons).bind fun y1 =>
  if y1 = 0 then
    if ck p_p 7 = true then
      lt (t_kindOf p_p.toNatClampNeg) fun y5 =>
      if y5 = 2 then
        (Mo_traced 3 t_traceNow).bind fun y19 =>
        Mo_tell_j27 p_p t_persons t_kindOf t_wants y5 y19
      else
        Mo_tell_j27 p_p t_persons t_kindOf t_wants y5 t_traceNow
    else none
  else
    some ((-1), t_traceNow)
set_option maxRecDepth 100000 in
set_option maxHeartbeats 4000000 in
theorem c_Mo_tell (l : Launch) (D : va_G) (cI cJ cS : ClassId) (q_t q_t_kindOf q_t_comes q_t_wants q_t_runs q_t_readKind q_t_readComes q_t_readWants q_t_queueNow q_t_servedAt q_t_comesWas q_t_readingOf q_t_readingAt q_t_sheetSize q_t_sheetLane q_t_sheet q_t_hands : Nat) (t_fault : Int32) (t_persons : Int32) (t_law : Int32) (t_bellSet : Int64) (t_readAt : Int32) (t_readLaw : Int32) (t_readMany : Int32) (t_queueMany : Int32) (t_servedNow : Int32) (t_doneAt : Int32) (t_readings : Int32) (t_whichMany : Int32) (t_whichOne : Int32) (t_whichTwo : Int32) (t_traceNow : Int32) (t_kindOf : Nat → Int32) (t_wants : Nat → Int32) (p_p : Int32) (o : Int32 × Int32) (hM : Mo_tell p_p t_persons t_kindOf t_wants t_traceNow = some o) : Ci l yX9_tell wsX9_tell rm_Mo_tell D cI cJ cS [.ref q_t, .int p_p] (w_Mo_tell cI cJ cS q_t q_t_kindOf q_t_comes q_t_wants q_t_runs q_t_readKind q_t_readComes q_t_readWants q_t_queueNow q_t_servedAt q_t_comesWas q_t_readingOf q_t_readingAt q_t_sheetSize q_t_sheetLane q_t_sheet q_t_hands t_fault t_persons t_law t_bellSet t_readAt t_readLaw t_readMany t_queueMany t_servedNow t_doneAt t_readings t_whichMany t_whichOne t_whichTwo t_traceNow t_kindOf t_wants) (w_Mo_tell cI cJ cS q_t q_t_kindOf q_t_comes q_t_wants q_t_runs q_t_readKind q_t_readComes q_t_readWants q_t_queueNow q_t_servedAt q_t_comesWas q_t_readingOf q_t_readingAt q_t_sheetSize q_t_sheetLane q_t_sheet q_t_hands t_fault t_persons t_law t_bellSet t_readAt t_readLaw t_readMany t_queueMany t_servedNow t_doneAt t_readings t_whichMany t_whichOne t_whichTwo o.2 t_kindOf t_wants) o.1 := by
  refine Ci.of (cc := cX9_tell) (maxL := 4) (ret := (some .int)) (by decide) rfl (Nat.le_of_ble_eq_true rfl) ?_
  intro p e s m args below meth c A ls hE
  obtain ⟨hx, hb, hr, hml, hown, hts, hlocks, hK, hA, hP, hD, hS, hl⟩ := hE
  have hown : s.vm.findClass RX9 = some m.cls := hown
  have hl : lv_has ls 4 [(0, .ref q_t), (1, .int p_p)] := hl
  have iX9 : ∀ w ∈ u_ws RX9 TX9 31, w ∈ wsX9_tell := by decide +kernel
  have k0 := hts (.fieldLink RX9 7 "TurnQueueModel" "kindOf" "[I") (by decide +kernel)
  have k1 := hts (.fieldLink RX9 16 "TurnQueueModel" "wants" "[I") (by decide +kernel)
  have J51 : ∀ (x2 : Int32) (t_traceNow : Int32), Mo_tell_j51 p_p t_persons t_kindOf t_wants x2 t_traceNow = some o → ∀ (H : Heap) (locs : List Loc), va_P D vwCl (w_Mo_tell cI cJ cS q_t q_t_kindOf q_t_comes q_t_wants q_t_runs q_t_readKind q_t_readComes q_t_readWants q_t_queueNow q_t_servedAt q_t_comesWas q_t_readingOf q_t_readingAt q_t_sheetSize q_t_sheetLane q_t_sheet q_t_hands t_fault t_persons t_law t_bellSet t_readAt t_readLaw t_readMany t_queueMany t_servedNow t_doneAt t_readings t_whichMany t_whichOne t_whichTwo t_traceNow t_kindOf t_wants) H → va_D A (w_Mo_tell cI cJ cS q_t q_t_kindOf q_t_comes q_t_wants q_t_runs q_t_readKind q_t_readComes q_t_readWants q_t_queueNow q_t_servedAt q_t_comesWas q_t_readingOf q_t_readingAt q_t_sheetSize q_t_sheetLane q_t_sheet q_t_hands t_fault t_persons t_law t_bellSet t_readAt t_readLaw t_readMany t_queueMany t_servedNow t_doneAt t_readings t_whichMany t_whichOne t_whichTwo t_traceNow t_kindOf t_wants) → va_S A s.heap H locs → ∀ ls : Array Slot, lv_has ls 4 [(0, .ref q_t), (1, .int p_p), (2, .int x2)] → W p l e (headSpec wsX9_tell rm_Mo_tell).room s m args below meth c H locs 0 0 (MQ below (CQi D (w_Mo_tell cI cJ cS q_t q_t_kindOf q_t_comes q_t_wants q_t_runs q_t_readKind q_t_readComes q_t_readWants q_t_queueNow q_t_servedAt q_t_comesWas q_t_readingOf q_t_readingAt q_t_sheetSize q_t_sheetLane q_t_sheet q_t_hands t_fault t_persons t_law t_bellSet t_readAt t_readLaw t_readMany t_queueMany t_servedNow t_doneAt t_readings t_whichMany t_whichOne t_whichTwo o.2 t_kindOf t_wants) A o.1) args s 0 0 A) (F0 m 51 ls []) := by
    intro x2 t_traceNow hM H locs hP hD hS ls hl
    unfold Mo_tell_j51 at hM
    refine lv_aload_n hx hb dX9_tell_51 rfl (lv_at hl 0 rfl) ?_
    refine va_get (ci := 8) (v := .ref q_t_wants) (C := RX9) (T := TX9) (N := 31) hx hb hts iX9 hown hK.1 hP 0 rfl rfl 5 (Nat.le_of_ble_eq_true rfl) k1 (fun _ h9 => h9) rfl dX9_tell_52 ?_
    refine lv_iload_n hx hb dX9_tell_55 rfl (lv_at hl 1 rfl) ?_
    obtain ⟨h11, hM⟩ := o_ck hM
    refine va_iald hx hb hK.1 hP 2 0 rfl rfl h11 dX9_tell_56 ?_
    refine lv_topi (fun y12 ey12 => ?_)
    have hM := o_lt hM y12 ey12
    refine lv_istore_n (lv' := [(3, .int y12), (0, .ref q_t), (1, .int p_p), (2, .int x2)]) hx hb dX9_tell_57 rfl hl (Nat.le_of_ble_eq_true rfl) rfl (fun ls hl => ?_)
    refine lv_iload_n hx hb dX9_tell_58 rfl (lv_at hl 3 rfl) ?_
    refine lv_if_ne (tgt := 66) hx hb dX9_tell_59 (by decide) (fun c13 => ?_) (fun c13 => ?_)
    · have hM := (o_if hM).2 c13
      refine lv_iload_n hx hb dX9_tell_66 rfl (lv_at hl 3 rfl) ?_
      refine lv_iconst (v := 1) hx hb dX9_tell_67 (by decide) ?_
      refine lv_icmp_ne (tgt := 78) hx hb dX9_tell_68 (by decide) (fun c14 => ?_) (fun c14 => ?_)
      · have hM := (o_if hM).2 c14
        refine lv_iconst (v := 2) hx hb dX9_tell_78 (by decide) ?_
        refine lv_iload_n hx hb dX9_tell_79 rfl (lv_at hl 0 rfl) ?_
        refine lv_imul hx hb dX9_tell_80 ?_
        refine lv_bipush (v := 100) hx hb dX9_tell_81 (by decide) ?_
        refine lv_iadd hx hb dX9_tell_83 ?_
        have hM := (Option.some.inj hM)
        subst hM
        exact rt_i hx hb hr hlocks hP hD hS dX9_tell_84
      · have hM := (o_if hM).1 c14
        refine lv_iload_n hx hb dX9_tell_71 rfl (lv_at hl 0 rfl) ?_
        refine lv_bipush (v := 100) hx hb dX9_tell_72 (by decide) ?_
        refine lv_iadd hx hb dX9_tell_74 ?_
        refine lv_goto (tgt := 84) hx hb dX9_tell_75 (by decide) ?_
        have hM := (Option.some.inj hM)
        subst hM
        exact rt_i hx hb hr hlocks hP hD hS dX9_tell_84
    · have hM := (o_if hM).1 c13
      refine lv_iload_n hx hb dX9_tell_62 rfl (lv_at hl 0 rfl) ?_
      refine lv_goto (tgt := 84) hx hb dX9_tell_63 (by decide) ?_
      have hM := (Option.some.inj hM)
      subst hM
      exact rt_i hx hb hr hlocks hP hD hS dX9_tell_84
  have J36 : ∀ (x2 : Int32) (t_traceNow : Int32), Mo_tell_j36 p_p t_persons t_kindOf t_wants x2 t_traceNow = some o → ∀ (H : Heap) (locs : List Loc), va_P D vwCl (w_Mo_tell cI cJ cS q_t q_t_kindOf q_t_comes q_t_wants q_t_runs q_t_readKind q_t_readComes q_t_readWants q_t_queueNow q_t_servedAt q_t_comesWas q_t_readingOf q_t_readingAt q_t_sheetSize q_t_sheetLane q_t_sheet q_t_hands t_fault t_persons t_law t_bellSet t_readAt t_readLaw t_readMany t_queueMany t_servedNow t_doneAt t_readings t_whichMany t_whichOne t_whichTwo t_traceNow t_kindOf t_wants) H → va_D A (w_Mo_tell cI cJ cS q_t q_t_kindOf q_t_comes q_t_wants q_t_runs q_t_readKind q_t_readComes q_t_readWants q_t_queueNow q_t_servedAt q_t_comesWas q_t_readingOf q_t_readingAt q_t_sheetSize q_t_sheetLane q_t_sheet q_t_hands t_fault t_persons t_law t_bellSet t_readAt t_readLaw t_readMany t_queueMany t_servedNow t_doneAt t_readings t_whichMany t_whichOne t_whichTwo t_traceNow t_kindOf t_wants) → va_S A s.heap H locs → ∀ ls : Array Slot, lv_has ls 4 [(0, .ref q_t), (1, .int p_p), (2, .int x2)] → W p l e (headSpec wsX9_tell rm_Mo_tell).room s m args below meth c H locs 0 0 (MQ below (CQi D (w_Mo_tell cI cJ cS q_t q_t_kindOf q_t_comes q_t_wants q_t_runs q_t_readKind q_t_readComes q_t_readWants q_t_queueNow q_t_servedAt q_t_comesWas q_t_readingOf q_t_readingAt q_t_sheetSize q_t_sheetLane q_t_sheet q_t_hands t_fault t_persons t_law t_bellSet t_readAt t_readLaw t_readMany t_queueMany t_servedNow t_doneAt t_readings t_whichMany t_whichOne t_whichTwo o.2 t_kindOf t_wants) A o.1) args s 0 0 A) (F0 m 36 ls []) := by
    intro x2 t_traceNow hM H locs hP hD hS ls hl
    unfold Mo_tell_j36 at hM
    refine lv_aload_n hx hb dX9_tell_36 rfl (lv_at hl 0 rfl) ?_
    refine lv_iconst (v := 1) hx hb dX9_tell_37 (by decide) ?_
    obtain ⟨y8, h9, hM⟩ := o_bd hM
    refine af_v (ws2 := (w_Mo_tell cI cJ cS q_t q_t_kindOf q_t_comes q_t_wants q_t_runs q_t_readKind q_t_readComes q_t_readWants q_t_queueNow q_t_servedAt q_t_comesWas q_t_readingOf q_t_readingAt q_t_sheetSize q_t_sheetLane q_t_sheet q_t_hands t_fault t_persons t_law t_bellSet t_readAt t_readLaw t_readMany t_queueMany t_servedNow t_doneAt t_readings t_whichMany t_whichOne t_whichTwo y8 t_kindOf t_wants)) (va_runV (As := [.int 1]) (rest := []) ⟨hx, hb, hml, hown, hts⟩ (c_Mo_traced l D cI cJ cS q_t q_t_kindOf q_t_comes q_t_wants q_t_runs q_t_readKind q_t_readComes q_t_readWants q_t_queueNow q_t_servedAt q_t_comesWas q_t_readingOf q_t_readingAt q_t_sheetSize q_t_sheetLane q_t_sheet q_t_hands t_fault t_persons t_law t_bellSet t_readAt t_readLaw t_readMany t_queueMany t_servedNow t_doneAt t_readings t_whichMany t_whichOne t_whichTwo t_traceNow 1 y8 h9 _) (cwV 1 hts gX9_tell_X9_traced rfl rfl rfl (by decide +kernel) ⟨(Nat.le_of_ble_eq_true rfl), (Nat.le_of_ble_eq_true rfl)⟩) (pre_V hK hP hD [0] rfl rfl rfl rfl) rfl rfl hl.1 rfl (lv_room (Nat.le_of_ble_eq_true rfl)) dX9_tell_38 ⟨Nat.zero_le _, Nat.zero_le _⟩) hP hD hS hA [0] [1, 2] [2, 0, 1] rfl rfl rfl (by decide) rfl rfl (fun H locs hP hD hS => ?_)
    refine lv_iload_n hx hb dX9_tell_41 rfl (lv_at hl 2 rfl) ?_
    refine lv_iconst (v := 2) hx hb dX9_tell_42 (by decide) ?_
    refine lv_icmp_ne (tgt := 51) hx hb dX9_tell_43 (by decide) (fun c10 => ?_) (fun c10 => ?_)
    · have hM := (o_if hM).2 c10
      exact J51 x2 y8 hM _ _ hP hD hS _ (lv_sub hl [0, 1, 2] rfl)
    · have hM := (o_if hM).1 c10
      refine lv_aload_n hx hb dX9_tell_46 rfl (lv_at hl 0 rfl) ?_
      refine lv_iconst (v := 1) hx hb dX9_tell_47 (by decide) ?_
      obtain ⟨y15, h16, hM⟩ := o_bd hM
      refine af_v (ws2 := (w_Mo_tell cI cJ cS q_t q_t_kindOf q_t_comes q_t_wants q_t_runs q_t_readKind q_t_readComes q_t_readWants q_t_queueNow q_t_servedAt q_t_comesWas q_t_readingOf q_t_readingAt q_t_sheetSize q_t_sheetLane q_t_sheet q_t_hands t_fault t_persons t_law t_bellSet t_readAt t_readLaw t_readMany t_queueMany t_servedNow t_doneAt t_readings t_whichMany t_whichOne t_whichTwo y15 t_kindOf t_wants)) (va_runV (As := [.int 1]) (rest := []) ⟨hx, hb, hml, hown, hts⟩ (c_Mo_traced l D cI cJ cS q_t q_t_kindOf q_t_comes q_t_wants q_t_runs q_t_readKind q_t_readComes q_t_readWants q_t_queueNow q_t_servedAt q_t_comesWas q_t_readingOf q_t_readingAt q_t_sheetSize q_t_sheetLane q_t_sheet q_t_hands t_fault t_persons t_law t_bellSet t_readAt t_readLaw t_readMany t_queueMany t_servedNow t_doneAt t_readings t_whichMany t_whichOne t_whichTwo y8 1 y15 h16 _) (cwV 1 hts gX9_tell_X9_traced rfl rfl rfl (by decide +kernel) ⟨(Nat.le_of_ble_eq_true rfl), (Nat.le_of_ble_eq_true rfl)⟩) (pre_V hK hP hD [0] rfl rfl rfl rfl) rfl rfl hl.1 rfl (lv_room (Nat.le_of_ble_eq_true rfl)) dX9_tell_48 ⟨Nat.zero_le _, Nat.zero_le _⟩) hP hD hS hA [0] [1, 2] [2, 0, 1] rfl rfl rfl (by decide) rfl rfl (fun H locs hP hD hS => ?_)
      exact J51 x2 y15 hM _ _ hP hD hS _ (lv_sub hl [0, 1, 2] rfl)
  have J27 : ∀ (x2 : Int32) (t_traceNow : Int32), Mo_tell_j27 p_p t_persons t_kindOf t_wants x2 t_traceNow = some o → ∀ (H : Heap) (locs : List Loc), va_P D vwCl (w_Mo_tell cI cJ cS q_t q_t_kindOf q_t_comes q_t_wants q_t_runs q_t_readKind q_t_readComes q_t_readWants q_t_queueNow q_t_servedAt q_t_comesWas q_t_readingOf q_t_readingAt q_t_sheetSize q_t_sheetLane q_t_sheet q_t_hands t_fault t_persons t_law t_bellSet t_readAt t_readLaw t_readMany t_queueMany t_servedNow t_doneAt t_readings t_whichMany t_whichOne t_whichTwo t_traceNow t_kindOf t_wants) H → va_D A (w_Mo_tell cI cJ cS q_t q_t_kindOf q_t_comes q_t_wants q_t_runs q_t_readKind q_t_readComes q_t_readWants q_t_queueNow q_t_servedAt q_t_comesWas q_t_readingOf q_t_readingAt q_t_sheetSize q_t_sheetLane q_t_sheet q_t_hands t_fault t_persons t_law t_bellSet t_readAt t_readLaw t_readMany t_queueMany t_servedNow t_doneAt t_readings t_whichMany t_whichOne t_whichTwo t_traceNow t_kindOf t_wants) → va_S A s.heap H locs → ∀ ls : Array Slot, lv_has ls 4 [(0, .ref q_t), (1, .int p_p), (2, .int x2)] → W p l e (headSpec wsX9_tell rm_Mo_tell).room s m args below meth c H locs 0 0 (MQ below (CQi D (w_Mo_tell cI cJ cS q_t q_t_kindOf q_t_comes q_t_wants q_t_runs q_t_readKind q_t_readComes q_t_readWants q_t_queueNow q_t_servedAt q_t_comesWas q_t_readingOf q_t_readingAt q_t_sheetSize q_t_sheetLane q_t_sheet q_t_hands t_fault t_persons t_law t_bellSet t_readAt t_readLaw t_readMany t_queueMany t_servedNow t_doneAt t_readings t_whichMany t_whichOne t_whichTwo o.2 t_kindOf t_wants) A o.1) args s 0 0 A) (F0 m 27 ls []) := by
    intro x2 t_traceNow hM H locs hP hD hS ls hl
    unfold Mo_tell_j27 at hM
    refine lv_iload_n hx hb dX9_tell_27 rfl (lv_at hl 2 rfl) ?_
    refine lv_if_le (tgt := 36) hx hb dX9_tell_28 (by decide) (fun c7 => ?_) (fun c7 => ?_)
    · have hM := (o_if hM).1 c7
      exact J36 x2 t_traceNow hM _ _ hP hD hS _ (lv_sub hl [0, 1, 2] rfl)
    · have hM := (o_if hM).2 c7
      refine lv_aload_n hx hb dX9_tell_31 rfl (lv_at hl 0 rfl) ?_
      refine lv_iconst (v := 2) hx hb dX9_tell_32 (by decide) ?_
      obtain ⟨y17, h18, hM⟩ := o_bd hM
      refine af_v (ws2 := (w_Mo_tell cI cJ cS q_t q_t_kindOf q_t_comes q_t_wants q_t_runs q_t_readKind q_t_readComes q_t_readWants q_t_queueNow q_t_servedAt q_t_comesWas q_t_readingOf q_t_readingAt q_t_sheetSize q_t_sheetLane q_t_sheet q_t_hands t_fault t_persons t_law t_bellSet t_readAt t_readLaw t_readMany t_queueMany t_servedNow t_doneAt t_readings t_whichMany t_whichOne t_whichTwo y17 t_kindOf t_wants)) (va_runV (As := [.int 2]) (rest := []) ⟨hx, hb, hml, hown, hts⟩ (c_Mo_traced l D cI cJ cS q_t q_t_kindOf q_t_comes q_t_wants q_t_runs q_t_readKind q_t_readComes q_t_readWants q_t_queueNow q_t_servedAt q_t_comesWas q_t_readingOf q_t_readingAt q_t_sheetSize q_t_sheetLane q_t_sheet q_t_hands t_fault t_persons t_law t_bellSet t_readAt t_readLaw t_readMany t_queueMany t_servedNow t_doneAt t_readings t_whichMany t_whichOne t_whichTwo t_traceNow 2 y17 h18 _) (cwV 1 hts gX9_tell_X9_traced rfl rfl rfl (by decide +kernel) ⟨(Nat.le_of_ble_eq_true rfl), (Nat.le_of_ble_eq_true rfl)⟩) (pre_V hK hP hD [0] rfl rfl rfl rfl) rfl rfl hl.1 rfl (lv_room (Nat.le_of_ble_eq_true rfl)) dX9_tell_33 ⟨Nat.zero_le _, Nat.zero_le _⟩) hP hD hS hA [0] [1, 2] [2, 0, 1] rfl rfl rfl (by decide) rfl rfl (fun H locs hP hD hS => ?_)
      exact J36 x2 y17 hM _ _ hP hD hS _ (lv_sub hl [0, 1, 2] rfl)
  unfold Mo_tell at hM
  refine lv_aload_n hx hb dX9_tell_0 rfl (lv_at hl 0 rfl) ?_
  refine lv_iload_n hx hb dX9_tell_1 rfl (lv_at hl 1 rfl) ?_
  obtain ⟨y1, h2, hM⟩ := o_bd hM
  refine af_i (ws2 := (w_Mo_tell cI cJ cS q_t q_t_kindOf q_t_comes q_t_wants q_t_runs q_t_readKind q_t_readComes q_t_readWants q_t_queueNow q_t_servedAt q_t_comesWas q_t_readingOf q_t_readingAt q_t_sheetSize q_t_sheetLane q_t_sheet q_t_hands t_fault t_persons t_law t_bellSet t_readAt t_readLaw t_readMany t_queueMany t_servedNow t_doneAt t_readings t_whichMany t_whichOne t_whichTwo t_traceNow t_kindOf t_wants)) (va_runV (As := [.int p_p]) (rest := []) ⟨hx, hb, hml, hown, hts⟩ (c_Mo_noPerson l D cI cJ cS q_t q_t_kindOf q_t_comes q_t_wants q_t_runs q_t_readKind q_t_readComes q_t_readWants q_t_queueNow q_t_servedAt q_t_comesWas q_t_readingOf q_t_readingAt q_t_sheetSize q_t_sheetLane q_t_sheet q_t_hands t_fault t_persons t_law t_bellSet t_readAt t_readLaw t_readMany t_queueMany t_servedNow t_doneAt t_readings t_whichMany t_whichOne t_whichTwo t_traceNow p_p y1 h2 _) (cwV 1 hts gX9_tell_X9_noPerson rfl rfl rfl (by decide +kernel) ⟨(Nat.le_of_ble_eq_true rfl), (Nat.le_of_ble_eq_true rfl)⟩) (pre_V hK hP hD [0] rfl rfl rfl rfl) rfl rfl hl.1 rfl (lv_room (Nat.le_of_ble_eq_true rfl)) dX9_tell_2 ⟨Nat.zero_le _, Nat.zero_le _⟩) hP hD hS hA [0] [1, 2] [2, 0, 1] rfl rfl rfl (by decide) rfl rfl (fun H locs hP hD hS => ?_)
  refine lv_if_eq (tgt := 10) hx hb dX9_tell_5 (by decide) (fun c3 => ?_) (fun c3 => ?_)
  · have hM := (o_if hM).1 c3
    refine lv_aload_n hx hb dX9_tell_10 rfl (lv_at hl 0 rfl) ?_
    refine va_get (ci := 8) (v := .ref q_t_kindOf) (C := RX9) (T := TX9) (N := 31) hx hb hts iX9 hown hK.1 hP 0 rfl rfl 3 (Nat.le_of_ble_eq_true rfl) k0 (fun _ h9 => h9) rfl dX9_tell_11 ?_
    refine lv_iload_n hx hb dX9_tell_14 rfl (lv_at hl 1 rfl) ?_
    obtain ⟨h4, hM⟩ := o_ck hM
    refine va_iald hx hb hK.1 hP 1 0 rfl rfl h4 dX9_tell_15 ?_
    refine lv_topi (fun y5 ey5 => ?_)
    have hM := o_lt hM y5 ey5
    refine lv_istore_n (lv' := [(2, .int y5), (0, .ref q_t), (1, .int p_p)]) hx hb dX9_tell_16 rfl hl (Nat.le_of_ble_eq_true rfl) rfl (fun ls hl => ?_)
    refine lv_iload_n hx hb dX9_tell_17 rfl (lv_at hl 0 rfl) ?_
    refine lv_iconst (v := 2) hx hb dX9_tell_18 (by decide) ?_
    refine lv_icmp_ne (tgt := 27) hx hb dX9_tell_19 (by decide) (fun c6 => ?_) (fun c6 => ?_)
    · have hM := (o_if hM).2 c6
      exact J27 y5 t_traceNow hM _ _ hP hD hS _ (lv_sub hl [1, 2, 0] rfl)
    · have hM := (o_if hM).1 c6
      refine lv_aload_n hx hb dX9_tell_22 rfl (lv_at hl 1 rfl) ?_
      refine lv_iconst (v := 3) hx hb dX9_tell_23 (by decide) ?_
      obtain ⟨y19, h20, hM⟩ := o_bd hM
      refine af_v (ws2 := (w_Mo_tell cI cJ cS q_t q_t_kindOf q_t_comes q_t_wants q_t_runs q_t_readKind q_t_readComes q_t_readWants q_t_queueNow q_t_servedAt q_t_comesWas q_t_readingOf q_t_readingAt q_t_sheetSize q_t_sheetLane q_t_sheet q_t_hands t_fault t_persons t_law t_bellSet t_readAt t_readLaw t_readMany t_queueMany t_servedNow t_doneAt t_readings t_whichMany t_whichOne t_whichTwo y19 t_kindOf t_wants)) (va_runV (As := [.int 3]) (rest := []) ⟨hx, hb, hml, hown, hts⟩ (c_Mo_traced l D cI cJ cS q_t q_t_kindOf q_t_comes q_t_wants q_t_runs q_t_readKind q_t_readComes q_t_readWants q_t_queueNow q_t_servedAt q_t_comesWas q_t_readingOf q_t_readingAt q_t_sheetSize q_t_sheetLane q_t_sheet q_t_hands t_fault t_persons t_law t_bellSet t_readAt t_readLaw t_readMany t_queueMany t_servedNow t_doneAt t_readings t_whichMany t_whichOne t_whichTwo t_traceNow 3 y19 h20 _) (cwV 1 hts gX9_tell_X9_traced rfl rfl rfl (by decide +kernel) ⟨(Nat.le_of_ble_eq_true rfl), (Nat.le_of_ble_eq_true rfl)⟩) (pre_V hK hP hD [0] rfl rfl rfl rfl) rfl rfl hl.1 rfl (lv_room (Nat.le_of_ble_eq_true rfl)) dX9_tell_24 ⟨Nat.zero_le _, Nat.zero_le _⟩) hP hD hS hA [0] [1, 2] [2, 0, 1] rfl rfl rfl (by decide) rfl rfl (fun H locs hP hD hS => ?_)
      exact J27 y5 y19 hM _ _ hP hD hS _ (lv_sub hl [1, 2, 0] rfl)
  · have hM := (o_if hM).2 c3
    refine lv_iconst (v := (-1)) hx hb dX9_tell_8 (by decide) ?_
    have hM := (Option.some.inj hM)
    subst hM
    exact rt_i hx hb hr hlocks hP hD hS dX9_tell_9
/-! ===== TurnQueueModel.greet ===== -/
abbrev w_Mo_greet (cI cJ cS : ClassId) (q_t : Nat) (q_t_kindOf : Nat) (q_t_comes : Nat) (q_t_wants : Nat) (q_t_runs : Nat) (q_t_readKind : Nat) (q_t_readComes : Nat) (q_t_readWants : Nat) (q_t_queueNow : Nat) (q_t_servedAt : Nat) (q_t_comesWas : Nat) (q_t_readingOf : Nat) (q_t_readingAt : Nat) (q_t_sheetSize : Nat) (q_t_sheetLane : Nat) (q_t_sheet : Nat) (q_t_hands : Nat) (t_fault : Int32) (t_persons : Int32) (t_law : Int32) (t_bellSet : Int64) (t_readAt : Int32) (t_readLaw : Int32) (t_readMany : Int32) (t_queueMany : Int32) (t_servedNow : Int32) (t_doneAt : Int32) (t_readings : Int32) (t_whichMany : Int32) (t_whichOne : Int32) (t_whichTwo : Int32) (t_traceNow : Int32) (t_kindOf : Nat → Int32) : va_W := [(q_t, .inr (8, [.int t_fault, .int t_persons, .int t_law, .ref q_t_kindOf, .ref q_t_comes, .ref q_t_wants, .ref q_t_runs, .long t_bellSet, .int t_readAt, .int t_readLaw, .int t_readMany, .ref q_t_readKind, .ref q_t_readComes, .ref q_t_readWants, .ref q_t_queueNow, .int t_queueMany, .int t_servedNow, .int t_doneAt, .ref q_t_servedAt, .ref q_t_comesWas, .int t_readings, .ref q_t_readingOf, .ref q_t_readingAt, .int t_whichMany, .int t_whichOne, .int t_whichTwo, .ref q_t_sheetSize, .ref q_t_sheetLane, .ref q_t_sheet, .ref q_t_hands, .int t_traceNow])), (q_t_kindOf, ar cI 7 t_kindOf)]
abbrev rm_Mo_greet : Room := { frames := 2, cells := 0, slots := 0, locals := 46 }
noncomputable def Mo_greet_j26 (p_p : Int32) (t_persons : Int32) (t_kindOf : Nat → Int32) (s1 : Int32) (t_traceNow : Int32) : Option (Int32 × Int32) :=
  (Mo_traced s1 t_traceNow).bind fun y6 =>
  if ck p_p 7 = true then
    if (t_kindOf p_p.toNatClampNeg) = 2 then
      some (90, y6)
    else
      some (p_p, y6)
  else none
noncomputable def Mo_greet (p_p : Int32) (t_persons : Int32) (t_kindOf : Nat → Int32) (t_traceNow : Int32) : Option (Int32 × Int32) :=
  (Mo_noPerson p_p t_persons).bind fun y1 =>
  if y1 = 0 then
    if ck p_p 7 = true then
      if (t_kindOf p_p.toNatClampNeg) = 2 then
        Mo_greet_j26 p_p t_persons t_kindOf 5 t_traceNow
      else
        Mo_greet_j26 p_p t_persons t_kindOf 4 t_traceNow
    else none
  else
    some ((-1), t_traceNow)
set_option maxRecDepth 100000 in
set_option maxHeartbeats 4000000 in
theorem c_Mo_greet (l : Launch) (D : va_G) (cI cJ cS : ClassId) (q_t q_t_kindOf q_t_comes q_t_wants q_t_runs q_t_readKind q_t_readComes q_t_readWants q_t_queueNow q_t_servedAt q_t_comesWas q_t_readingOf q_t_readingAt q_t_sheetSize q_t_sheetLane q_t_sheet q_t_hands : Nat) (t_fault : Int32) (t_persons : Int32) (t_law : Int32) (t_bellSet : Int64) (t_readAt : Int32) (t_readLaw : Int32) (t_readMany : Int32) (t_queueMany : Int32) (t_servedNow : Int32) (t_doneAt : Int32) (t_readings : Int32) (t_whichMany : Int32) (t_whichOne : Int32) (t_whichTwo : Int32) (t_traceNow : Int32) (t_kindOf : Nat → Int32) (p_p : Int32) (o : Int32 × Int32) (hM : Mo_greet p_p t_persons t_kindOf t_traceNow = some o) : Ci l yX9_greet wsX9_greet rm_Mo_greet D cI cJ cS [.ref q_t, .int p_p] (w_Mo_greet cI cJ cS q_t q_t_kindOf q_t_comes q_t_wants q_t_runs q_t_readKind q_t_readComes q_t_readWants q_t_queueNow q_t_servedAt q_t_comesWas q_t_readingOf q_t_readingAt q_t_sheetSize q_t_sheetLane q_t_sheet q_t_hands t_fault t_persons t_law t_bellSet t_readAt t_readLaw t_readMany t_queueMany t_servedNow t_doneAt t_readings t_whichMany t_whichOne t_whichTwo t_traceNow t_kindOf) (w_Mo_greet cI cJ cS q_t q_t_kindOf q_t_comes q_t_wants q_t_runs q_t_readKind q_t_readComes q_t_readWants q_t_queueNow q_t_servedAt q_t_comesWas q_t_readingOf q_t_readingAt q_t_sheetSize q_t_sheetLane q_t_sheet q_t_hands t_fault t_persons t_law t_bellSet t_readAt t_readLaw t_readMany t_queueMany t_servedNow t_doneAt t_readings t_whichMany t_whichOne t_whichTwo o.2 t_kindOf) o.1 := by
  refine Ci.of (cc := cX9_greet) (maxL := 2) (ret := (some .int)) (by decide) rfl (Nat.le_of_ble_eq_true rfl) ?_
  intro p e s m args below meth c A ls hE
  obtain ⟨hx, hb, hr, hml, hown, hts, hlocks, hK, hA, hP, hD, hS, hl⟩ := hE
  have hown : s.vm.findClass RX9 = some m.cls := hown
  have hl : lv_has ls 2 [(0, .ref q_t), (1, .int p_p)] := hl
  have iX9 : ∀ w ∈ u_ws RX9 TX9 31, w ∈ wsX9_greet := by decide +kernel
  have k0 := hts (.fieldLink RX9 7 "TurnQueueModel" "kindOf" "[I") (by decide +kernel)
  have J26 : ∀ (s1 : Int32) (t_traceNow : Int32), Mo_greet_j26 p_p t_persons t_kindOf s1 t_traceNow = some o → ∀ (H : Heap) (locs : List Loc), va_P D vwCl (w_Mo_greet cI cJ cS q_t q_t_kindOf q_t_comes q_t_wants q_t_runs q_t_readKind q_t_readComes q_t_readWants q_t_queueNow q_t_servedAt q_t_comesWas q_t_readingOf q_t_readingAt q_t_sheetSize q_t_sheetLane q_t_sheet q_t_hands t_fault t_persons t_law t_bellSet t_readAt t_readLaw t_readMany t_queueMany t_servedNow t_doneAt t_readings t_whichMany t_whichOne t_whichTwo t_traceNow t_kindOf) H → va_D A (w_Mo_greet cI cJ cS q_t q_t_kindOf q_t_comes q_t_wants q_t_runs q_t_readKind q_t_readComes q_t_readWants q_t_queueNow q_t_servedAt q_t_comesWas q_t_readingOf q_t_readingAt q_t_sheetSize q_t_sheetLane q_t_sheet q_t_hands t_fault t_persons t_law t_bellSet t_readAt t_readLaw t_readMany t_queueMany t_servedNow t_doneAt t_readings t_whichMany t_whichOne t_whichTwo t_traceNow t_kindOf) → va_S A s.heap H locs → ∀ ls : Array Slot, lv_has ls 2 [(0, .ref q_t), (1, .int p_p)] → W p l e (headSpec wsX9_greet rm_Mo_greet).room s m args below meth c H locs 0 0 (MQ below (CQi D (w_Mo_greet cI cJ cS q_t q_t_kindOf q_t_comes q_t_wants q_t_runs q_t_readKind q_t_readComes q_t_readWants q_t_queueNow q_t_servedAt q_t_comesWas q_t_readingOf q_t_readingAt q_t_sheetSize q_t_sheetLane q_t_sheet q_t_hands t_fault t_persons t_law t_bellSet t_readAt t_readLaw t_readMany t_queueMany t_servedNow t_doneAt t_readings t_whichMany t_whichOne t_whichTwo o.2 t_kindOf) A o.1) args s 0 0 A) (F0 m 26 ls [.int s1, .ref q_t]) := by
    intro s1 t_traceNow hM H locs hP hD hS ls hl
    unfold Mo_greet_j26 at hM
    obtain ⟨y6, h7, hM⟩ := o_bd hM
    refine af_v (ws2 := (w_Mo_greet cI cJ cS q_t q_t_kindOf q_t_comes q_t_wants q_t_runs q_t_readKind q_t_readComes q_t_readWants q_t_queueNow q_t_servedAt q_t_comesWas q_t_readingOf q_t_readingAt q_t_sheetSize q_t_sheetLane q_t_sheet q_t_hands t_fault t_persons t_law t_bellSet t_readAt t_readLaw t_readMany t_queueMany t_servedNow t_doneAt t_readings t_whichMany t_whichOne t_whichTwo y6 t_kindOf)) (va_runV (As := [.int s1]) (rest := []) ⟨hx, hb, hml, hown, hts⟩ (c_Mo_traced l D cI cJ cS q_t q_t_kindOf q_t_comes q_t_wants q_t_runs q_t_readKind q_t_readComes q_t_readWants q_t_queueNow q_t_servedAt q_t_comesWas q_t_readingOf q_t_readingAt q_t_sheetSize q_t_sheetLane q_t_sheet q_t_hands t_fault t_persons t_law t_bellSet t_readAt t_readLaw t_readMany t_queueMany t_servedNow t_doneAt t_readings t_whichMany t_whichOne t_whichTwo t_traceNow s1 y6 h7 _) (cwV 1 hts gX9_greet_X9_traced rfl rfl rfl (by decide +kernel) ⟨(Nat.le_of_ble_eq_true rfl), (Nat.le_of_ble_eq_true rfl)⟩) (pre_V hK hP hD [0] rfl rfl rfl rfl) rfl rfl hl.1 rfl (lv_room (Nat.le_of_ble_eq_true rfl)) dX9_greet_26 ⟨Nat.zero_le _, Nat.zero_le _⟩) hP hD hS hA [0] [1] [1, 0] rfl rfl rfl (by decide) rfl rfl (fun H locs hP hD hS => ?_)
    refine lv_aload_n hx hb dX9_greet_29 rfl (lv_at hl 0 rfl) ?_
    refine va_get (ci := 8) (v := .ref q_t_kindOf) (C := RX9) (T := TX9) (N := 31) hx hb hts iX9 hown hK.1 hP 0 rfl rfl 3 (Nat.le_of_ble_eq_true rfl) k0 (fun _ h9 => h9) rfl dX9_greet_30 ?_
    refine lv_iload_n hx hb dX9_greet_33 rfl (lv_at hl 1 rfl) ?_
    obtain ⟨h8, hM⟩ := o_ck hM
    refine va_iald hx hb hK.1 hP 1 0 rfl rfl h8 dX9_greet_34 ?_
    refine lv_iconst (v := 2) hx hb dX9_greet_35 (by decide) ?_
    refine lv_icmp_ne (tgt := 44) hx hb dX9_greet_36 (by decide) (fun c9 => ?_) (fun c9 => ?_)
    · have hM := (o_if hM).2 c9
      refine lv_iload_n hx hb dX9_greet_44 rfl (lv_at hl 1 rfl) ?_
      have hM := (Option.some.inj hM)
      subst hM
      exact rt_i hx hb hr hlocks hP hD hS dX9_greet_45
    · have hM := (o_if hM).1 c9
      refine lv_bipush (v := 90) hx hb dX9_greet_39 (by decide) ?_
      refine lv_goto (tgt := 45) hx hb dX9_greet_41 (by decide) ?_
      have hM := (Option.some.inj hM)
      subst hM
      exact rt_i hx hb hr hlocks hP hD hS dX9_greet_45
  unfold Mo_greet at hM
  refine lv_aload_n hx hb dX9_greet_0 rfl (lv_at hl 0 rfl) ?_
  refine lv_iload_n hx hb dX9_greet_1 rfl (lv_at hl 1 rfl) ?_
  obtain ⟨y1, h2, hM⟩ := o_bd hM
  refine af_i (ws2 := (w_Mo_greet cI cJ cS q_t q_t_kindOf q_t_comes q_t_wants q_t_runs q_t_readKind q_t_readComes q_t_readWants q_t_queueNow q_t_servedAt q_t_comesWas q_t_readingOf q_t_readingAt q_t_sheetSize q_t_sheetLane q_t_sheet q_t_hands t_fault t_persons t_law t_bellSet t_readAt t_readLaw t_readMany t_queueMany t_servedNow t_doneAt t_readings t_whichMany t_whichOne t_whichTwo t_traceNow t_kindOf)) (va_runV (As := [.int p_p]) (rest := []) ⟨hx, hb, hml, hown, hts⟩ (c_Mo_noPerson l D cI cJ cS q_t q_t_kindOf q_t_comes q_t_wants q_t_runs q_t_readKind q_t_readComes q_t_readWants q_t_queueNow q_t_servedAt q_t_comesWas q_t_readingOf q_t_readingAt q_t_sheetSize q_t_sheetLane q_t_sheet q_t_hands t_fault t_persons t_law t_bellSet t_readAt t_readLaw t_readMany t_queueMany t_servedNow t_doneAt t_readings t_whichMany t_whichOne t_whichTwo t_traceNow p_p y1 h2 _) (cwV 1 hts gX9_greet_X9_noPerson rfl rfl rfl (by decide +kernel) ⟨(Nat.le_of_ble_eq_true rfl), (Nat.le_of_ble_eq_true rfl)⟩) (pre_V hK hP hD [0] rfl rfl rfl rfl) rfl rfl hl.1 rfl (lv_room (Nat.le_of_ble_eq_true rfl)) dX9_greet_2 ⟨Nat.zero_le _, Nat.zero_le _⟩) hP hD hS hA [0] [1] [1, 0] rfl rfl rfl (by decide) rfl rfl (fun H locs hP hD hS => ?_)
  refine lv_if_eq (tgt := 10) hx hb dX9_greet_5 (by decide) (fun c3 => ?_) (fun c3 => ?_)
  · have hM := (o_if hM).1 c3
    refine lv_aload_n hx hb dX9_greet_10 rfl (lv_at hl 0 rfl) ?_
    refine lv_aload_n hx hb dX9_greet_11 rfl (lv_at hl 0 rfl) ?_
    refine va_get (ci := 8) (v := .ref q_t_kindOf) (C := RX9) (T := TX9) (N := 31) hx hb hts iX9 hown hK.1 hP 0 rfl rfl 3 (Nat.le_of_ble_eq_true rfl) k0 (fun _ h9 => h9) rfl dX9_greet_12 ?_
    refine lv_iload_n hx hb dX9_greet_15 rfl (lv_at hl 1 rfl) ?_
    obtain ⟨h4, hM⟩ := o_ck hM
    refine va_iald hx hb hK.1 hP 1 0 rfl rfl h4 dX9_greet_16 ?_
    refine lv_iconst (v := 2) hx hb dX9_greet_17 (by decide) ?_
    refine lv_icmp_ne (tgt := 25) hx hb dX9_greet_18 (by decide) (fun c5 => ?_) (fun c5 => ?_)
    · have hM := (o_if hM).2 c5
      refine lv_iconst (v := 4) hx hb dX9_greet_25 (by decide) ?_
      exact J26 4 t_traceNow hM _ _ hP hD hS _ (lv_sub hl [0, 1] rfl)
    · have hM := (o_if hM).1 c5
      refine lv_iconst (v := 5) hx hb dX9_greet_21 (by decide) ?_
      refine lv_goto (tgt := 26) hx hb dX9_greet_22 (by decide) ?_
      exact J26 5 t_traceNow hM _ _ hP hD hS _ (lv_sub hl [0, 1] rfl)
  · have hM := (o_if hM).2 c3
    refine lv_iconst (v := (-1)) hx hb dX9_greet_8 (by decide) ?_
    have hM := (Option.some.inj hM)
    subst hM
    exact rt_i hx hb hr hlocks hP hD hS dX9_greet_9
/-! ===== TurnQueueModel.as ===== -/
abbrev w_Mo_as (cI cJ cS : ClassId) (q_t : Nat) (q_t_kindOf : Nat) (q_t_comes : Nat) (q_t_wants : Nat) (q_t_runs : Nat) (q_t_readKind : Nat) (q_t_readComes : Nat) (q_t_readWants : Nat) (q_t_queueNow : Nat) (q_t_servedAt : Nat) (q_t_comesWas : Nat) (q_t_readingOf : Nat) (q_t_readingAt : Nat) (q_t_sheetSize : Nat) (q_t_sheetLane : Nat) (q_t_sheet : Nat) (q_t_hands : Nat) (t_fault : Int32) (t_persons : Int32) (t_law : Int32) (t_bellSet : Int64) (t_readAt : Int32) (t_readLaw : Int32) (t_readMany : Int32) (t_queueMany : Int32) (t_servedNow : Int32) (t_doneAt : Int32) (t_readings : Int32) (t_whichMany : Int32) (t_whichOne : Int32) (t_whichTwo : Int32) (t_traceNow : Int32) (t_kindOf : Nat → Int32) : va_W := [(q_t, .inr (8, [.int t_fault, .int t_persons, .int t_law, .ref q_t_kindOf, .ref q_t_comes, .ref q_t_wants, .ref q_t_runs, .long t_bellSet, .int t_readAt, .int t_readLaw, .int t_readMany, .ref q_t_readKind, .ref q_t_readComes, .ref q_t_readWants, .ref q_t_queueNow, .int t_queueMany, .int t_servedNow, .int t_doneAt, .ref q_t_servedAt, .ref q_t_comesWas, .int t_readings, .ref q_t_readingOf, .ref q_t_readingAt, .int t_whichMany, .int t_whichOne, .int t_whichTwo, .ref q_t_sheetSize, .ref q_t_sheetLane, .ref q_t_sheet, .ref q_t_hands, .int t_traceNow])), (q_t_kindOf, ar cI 7 t_kindOf)]
abbrev rm_Mo_as : Room := { frames := 2, cells := 0, slots := 0, locals := 46 }
noncomputable def Mo_as (p_p : Int32) (p_kind : Int32) (t_persons : Int32) (t_kindOf : Nat → Int32) (t_fault : Int32) : Option (Int32 × Int32) :=
  (Mo_noPerson p_p t_persons).bind fun y1 =>
  if y1 = 0 then
    (Mo_in p_kind.toInt64 0 2).bind fun y4 =>
    if y4 = 0 then
      (Mo_refused (-2) t_fault).bind fun y13 =>
      some (y13.1, y13.2)
    else
      if ck p_p 7 = true then
        if (t_kindOf p_p.toNatClampNeg) < p_kind then
          (Mo_failed 2 t_fault).bind fun y9 =>
          some (y9.1, y9.2)
        else
          (Mo_refused 1 t_fault).bind fun y11 =>
          some (y11.1, y11.2)
      else none
  else
    (Mo_refused (-1) t_fault).bind fun y15 =>
    some (y15.1, y15.2)
set_option maxRecDepth 100000 in
set_option maxHeartbeats 4000000 in
theorem c_Mo_as (l : Launch) (D : va_G) (cI cJ cS : ClassId) (q_t q_t_kindOf q_t_comes q_t_wants q_t_runs q_t_readKind q_t_readComes q_t_readWants q_t_queueNow q_t_servedAt q_t_comesWas q_t_readingOf q_t_readingAt q_t_sheetSize q_t_sheetLane q_t_sheet q_t_hands : Nat) (t_fault : Int32) (t_persons : Int32) (t_law : Int32) (t_bellSet : Int64) (t_readAt : Int32) (t_readLaw : Int32) (t_readMany : Int32) (t_queueMany : Int32) (t_servedNow : Int32) (t_doneAt : Int32) (t_readings : Int32) (t_whichMany : Int32) (t_whichOne : Int32) (t_whichTwo : Int32) (t_traceNow : Int32) (t_kindOf : Nat → Int32) (p_p : Int32) (p_kind : Int32) (o : Int32 × Int32) (hM : Mo_as p_p p_kind t_persons t_kindOf t_fault = some o) : Ci l yX9_as wsX9_as rm_Mo_as D cI cJ cS [.ref q_t, .int p_p, .int p_kind] (w_Mo_as cI cJ cS q_t q_t_kindOf q_t_comes q_t_wants q_t_runs q_t_readKind q_t_readComes q_t_readWants q_t_queueNow q_t_servedAt q_t_comesWas q_t_readingOf q_t_readingAt q_t_sheetSize q_t_sheetLane q_t_sheet q_t_hands t_fault t_persons t_law t_bellSet t_readAt t_readLaw t_readMany t_queueMany t_servedNow t_doneAt t_readings t_whichMany t_whichOne t_whichTwo t_traceNow t_kindOf) (w_Mo_as cI cJ cS q_t q_t_kindOf q_t_comes q_t_wants q_t_runs q_t_readKind q_t_readComes q_t_readWants q_t_queueNow q_t_servedAt q_t_comesWas q_t_readingOf q_t_readingAt q_t_sheetSize q_t_sheetLane q_t_sheet q_t_hands o.2 t_persons t_law t_bellSet t_readAt t_readLaw t_readMany t_queueMany t_servedNow t_doneAt t_readings t_whichMany t_whichOne t_whichTwo t_traceNow t_kindOf) o.1 := by
  refine Ci.of (cc := cX9_as) (maxL := 3) (ret := (some .int)) (by decide) rfl (Nat.le_of_ble_eq_true rfl) ?_
  intro p e s m args below meth c A ls hE
  obtain ⟨hx, hb, hr, hml, hown, hts, hlocks, hK, hA, hP, hD, hS, hl⟩ := hE
  have hown : s.vm.findClass RX9 = some m.cls := hown
  have hl : lv_has ls 3 [(0, .ref q_t), (1, .int p_p), (2, .int p_kind)] := hl
  have iX9 : ∀ w ∈ u_ws RX9 TX9 31, w ∈ wsX9_as := by decide +kernel
  have k0 := hts (.constantLong RX9 106 (2)) (by decide +kernel)
  have k1 := hts (.fieldLink RX9 7 "TurnQueueModel" "kindOf" "[I") (by decide +kernel)
  unfold Mo_as at hM
  refine lv_aload_n hx hb dX9_as_0 rfl (lv_at hl 0 rfl) ?_
  refine lv_iload_n hx hb dX9_as_1 rfl (lv_at hl 1 rfl) ?_
  obtain ⟨y1, h2, hM⟩ := o_bd hM
  refine af_i (ws2 := (w_Mo_as cI cJ cS q_t q_t_kindOf q_t_comes q_t_wants q_t_runs q_t_readKind q_t_readComes q_t_readWants q_t_queueNow q_t_servedAt q_t_comesWas q_t_readingOf q_t_readingAt q_t_sheetSize q_t_sheetLane q_t_sheet q_t_hands t_fault t_persons t_law t_bellSet t_readAt t_readLaw t_readMany t_queueMany t_servedNow t_doneAt t_readings t_whichMany t_whichOne t_whichTwo t_traceNow t_kindOf)) (va_runV (As := [.int p_p]) (rest := []) ⟨hx, hb, hml, hown, hts⟩ (c_Mo_noPerson l D cI cJ cS q_t q_t_kindOf q_t_comes q_t_wants q_t_runs q_t_readKind q_t_readComes q_t_readWants q_t_queueNow q_t_servedAt q_t_comesWas q_t_readingOf q_t_readingAt q_t_sheetSize q_t_sheetLane q_t_sheet q_t_hands t_fault t_persons t_law t_bellSet t_readAt t_readLaw t_readMany t_queueMany t_servedNow t_doneAt t_readings t_whichMany t_whichOne t_whichTwo t_traceNow p_p y1 h2 _) (cwV 1 hts gX9_as_X9_noPerson rfl rfl rfl (by decide +kernel) ⟨(Nat.le_of_ble_eq_true rfl), (Nat.le_of_ble_eq_true rfl)⟩) (pre_V hK hP hD [0] rfl rfl rfl rfl) rfl rfl hl.1 rfl (lv_room (Nat.le_of_ble_eq_true rfl)) dX9_as_2 ⟨Nat.zero_le _, Nat.zero_le _⟩) hP hD hS hA [0] [1] [1, 0] rfl rfl rfl (by decide) rfl rfl (fun H locs hP hD hS => ?_)
  refine lv_if_eq (tgt := 14) hx hb dX9_as_5 (by decide) (fun c3 => ?_) (fun c3 => ?_)
  · have hM := (o_if hM).1 c3
    refine lv_iload_n hx hb dX9_as_14 rfl (lv_at hl 2 rfl) ?_
    refine lv_i2l (v := p_kind.toInt64) hx hb dX9_as_15 rfl ?_
    refine lv_lconst (v := 0) hx hb dX9_as_16 (by decide) ?_
    refine lv_ldc2 (v := 2) hx hb hown k0 dX9_as_17 ?_
    obtain ⟨y4, h5, hM⟩ := o_bd hM
    refine af_i (ws2 := (w_Mo_as cI cJ cS q_t q_t_kindOf q_t_comes q_t_wants q_t_runs q_t_readKind q_t_readComes q_t_readWants q_t_queueNow q_t_servedAt q_t_comesWas q_t_readingOf q_t_readingAt q_t_sheetSize q_t_sheetLane q_t_sheet q_t_hands t_fault t_persons t_law t_bellSet t_readAt t_readLaw t_readMany t_queueMany t_servedNow t_doneAt t_readings t_whichMany t_whichOne t_whichTwo t_traceNow t_kindOf)) (va_runS (As := [.long p_kind.toInt64, .long 0, .long 2]) (rest := []) ⟨hx, hb, hml, hown, hts⟩ (c_Mo_in l D cI cJ cS p_kind.toInt64 0 2 y4 h5 _) (va_cwS 3 hts gX9_as_X9_in rfl rfl rfl (by decide +kernel) ⟨(Nat.le_of_ble_eq_true rfl), (Nat.le_of_ble_eq_true rfl)⟩) (pre_S hK hP hD [] rfl rfl) rfl rfl hl.1 rfl (lv_room (Nat.le_of_ble_eq_true rfl)) dX9_as_20 ⟨Nat.zero_le _, Nat.zero_le _⟩) hP hD hS hA [] [0, 1] [0, 1] rfl rfl rfl (by decide) rfl rfl (fun H locs hP hD hS => ?_)
    refine lv_if_ne (tgt := 33) hx hb dX9_as_23 (by decide) (fun c6 => ?_) (fun c6 => ?_)
    · have hM := (o_if hM).2 c6
      refine lv_aload_n hx hb dX9_as_33 rfl (lv_at hl 0 rfl) ?_
      refine va_get (ci := 8) (v := .ref q_t_kindOf) (C := RX9) (T := TX9) (N := 31) hx hb hts iX9 hown hK.1 hP 0 rfl rfl 3 (Nat.le_of_ble_eq_true rfl) k1 (fun _ h9 => h9) rfl dX9_as_34 ?_
      refine lv_iload_n hx hb dX9_as_37 rfl (lv_at hl 1 rfl) ?_
      obtain ⟨h7, hM⟩ := o_ck hM
      refine va_iald hx hb hK.1 hP 1 0 rfl rfl h7 dX9_as_38 ?_
      refine lv_iload_n hx hb dX9_as_39 rfl (lv_at hl 2 rfl) ?_
      refine lv_icmp_lt (tgt := 51) hx hb dX9_as_40 (by decide) (fun c8 => ?_) (fun c8 => ?_)
      · have hM := (o_if hM).1 c8
        refine lv_aload_n hx hb dX9_as_51 rfl (lv_at hl 0 rfl) ?_
        refine lv_iconst (v := 2) hx hb dX9_as_52 (by decide) ?_
        obtain ⟨y9, h10, hM⟩ := o_bd hM
        refine af_i (ws2 := (w_Mo_as cI cJ cS q_t q_t_kindOf q_t_comes q_t_wants q_t_runs q_t_readKind q_t_readComes q_t_readWants q_t_queueNow q_t_servedAt q_t_comesWas q_t_readingOf q_t_readingAt q_t_sheetSize q_t_sheetLane q_t_sheet q_t_hands y9.2 t_persons t_law t_bellSet t_readAt t_readLaw t_readMany t_queueMany t_servedNow t_doneAt t_readings t_whichMany t_whichOne t_whichTwo t_traceNow t_kindOf)) (va_runV (As := [.int 2]) (rest := []) ⟨hx, hb, hml, hown, hts⟩ (c_Mo_failed l D cI cJ cS q_t q_t_kindOf q_t_comes q_t_wants q_t_runs q_t_readKind q_t_readComes q_t_readWants q_t_queueNow q_t_servedAt q_t_comesWas q_t_readingOf q_t_readingAt q_t_sheetSize q_t_sheetLane q_t_sheet q_t_hands t_fault t_persons t_law t_bellSet t_readAt t_readLaw t_readMany t_queueMany t_servedNow t_doneAt t_readings t_whichMany t_whichOne t_whichTwo t_traceNow 2 y9 h10 _) (cwV 1 hts gX9_as_X9_failed rfl rfl rfl (by decide +kernel) ⟨(Nat.le_of_ble_eq_true rfl), (Nat.le_of_ble_eq_true rfl)⟩) (pre_V hK hP hD [0] rfl rfl rfl rfl) rfl rfl hl.1 rfl (lv_room (Nat.le_of_ble_eq_true rfl)) dX9_as_53 ⟨Nat.zero_le _, Nat.zero_le _⟩) hP hD hS hA [0] [1] [1, 0] rfl rfl rfl (by decide) rfl rfl (fun H locs hP hD hS => ?_)
        have hM := (Option.some.inj hM)
        subst hM
        exact rt_i hx hb hr hlocks hP hD hS dX9_as_56
      · have hM := (o_if hM).2 c8
        refine lv_aload_n hx hb dX9_as_43 rfl (lv_at hl 0 rfl) ?_
        refine lv_iconst (v := 1) hx hb dX9_as_44 (by decide) ?_
        obtain ⟨y11, h12, hM⟩ := o_bd hM
        refine af_i (ws2 := (w_Mo_as cI cJ cS q_t q_t_kindOf q_t_comes q_t_wants q_t_runs q_t_readKind q_t_readComes q_t_readWants q_t_queueNow q_t_servedAt q_t_comesWas q_t_readingOf q_t_readingAt q_t_sheetSize q_t_sheetLane q_t_sheet q_t_hands y11.2 t_persons t_law t_bellSet t_readAt t_readLaw t_readMany t_queueMany t_servedNow t_doneAt t_readings t_whichMany t_whichOne t_whichTwo t_traceNow t_kindOf)) (va_runV (As := [.int 1]) (rest := []) ⟨hx, hb, hml, hown, hts⟩ (c_Mo_refused l D cI cJ cS q_t q_t_kindOf q_t_comes q_t_wants q_t_runs q_t_readKind q_t_readComes q_t_readWants q_t_queueNow q_t_servedAt q_t_comesWas q_t_readingOf q_t_readingAt q_t_sheetSize q_t_sheetLane q_t_sheet q_t_hands t_fault t_persons t_law t_bellSet t_readAt t_readLaw t_readMany t_queueMany t_servedNow t_doneAt t_readings t_whichMany t_whichOne t_whichTwo t_traceNow 1 y11 h12 _) (cwV 1 hts gX9_as_X9_refused rfl rfl rfl (by decide +kernel) ⟨(Nat.le_of_ble_eq_true rfl), (Nat.le_of_ble_eq_true rfl)⟩) (pre_V hK hP hD [0] rfl rfl rfl rfl) rfl rfl hl.1 rfl (lv_room (Nat.le_of_ble_eq_true rfl)) dX9_as_45 ⟨Nat.zero_le _, Nat.zero_le _⟩) hP hD hS hA [0] [1] [1, 0] rfl rfl rfl (by decide) rfl rfl (fun H locs hP hD hS => ?_)
        refine lv_goto (tgt := 56) hx hb dX9_as_48 (by decide) ?_
        have hM := (Option.some.inj hM)
        subst hM
        exact rt_i hx hb hr hlocks hP hD hS dX9_as_56
    · have hM := (o_if hM).1 c6
      refine lv_aload_n hx hb dX9_as_26 rfl (lv_at hl 0 rfl) ?_
      refine lv_bipush (v := (-2)) hx hb dX9_as_27 (by decide) ?_
      obtain ⟨y13, h14, hM⟩ := o_bd hM
      refine af_i (ws2 := (w_Mo_as cI cJ cS q_t q_t_kindOf q_t_comes q_t_wants q_t_runs q_t_readKind q_t_readComes q_t_readWants q_t_queueNow q_t_servedAt q_t_comesWas q_t_readingOf q_t_readingAt q_t_sheetSize q_t_sheetLane q_t_sheet q_t_hands y13.2 t_persons t_law t_bellSet t_readAt t_readLaw t_readMany t_queueMany t_servedNow t_doneAt t_readings t_whichMany t_whichOne t_whichTwo t_traceNow t_kindOf)) (va_runV (As := [.int (-2)]) (rest := []) ⟨hx, hb, hml, hown, hts⟩ (c_Mo_refused l D cI cJ cS q_t q_t_kindOf q_t_comes q_t_wants q_t_runs q_t_readKind q_t_readComes q_t_readWants q_t_queueNow q_t_servedAt q_t_comesWas q_t_readingOf q_t_readingAt q_t_sheetSize q_t_sheetLane q_t_sheet q_t_hands t_fault t_persons t_law t_bellSet t_readAt t_readLaw t_readMany t_queueMany t_servedNow t_doneAt t_readings t_whichMany t_whichOne t_whichTwo t_traceNow (-2) y13 h14 _) (cwV 1 hts gX9_as_X9_refused rfl rfl rfl (by decide +kernel) ⟨(Nat.le_of_ble_eq_true rfl), (Nat.le_of_ble_eq_true rfl)⟩) (pre_V hK hP hD [0] rfl rfl rfl rfl) rfl rfl hl.1 rfl (lv_room (Nat.le_of_ble_eq_true rfl)) dX9_as_29 ⟨Nat.zero_le _, Nat.zero_le _⟩) hP hD hS hA [0] [1] [1, 0] rfl rfl rfl (by decide) rfl rfl (fun H locs hP hD hS => ?_)
      have hM := (Option.some.inj hM)
      subst hM
      exact rt_i hx hb hr hlocks hP hD hS dX9_as_32
  · have hM := (o_if hM).2 c3
    refine lv_aload_n hx hb dX9_as_8 rfl (lv_at hl 0 rfl) ?_
    refine lv_iconst (v := (-1)) hx hb dX9_as_9 (by decide) ?_
    obtain ⟨y15, h16, hM⟩ := o_bd hM
    refine af_i (ws2 := (w_Mo_as cI cJ cS q_t q_t_kindOf q_t_comes q_t_wants q_t_runs q_t_readKind q_t_readComes q_t_readWants q_t_queueNow q_t_servedAt q_t_comesWas q_t_readingOf q_t_readingAt q_t_sheetSize q_t_sheetLane q_t_sheet q_t_hands y15.2 t_persons t_law t_bellSet t_readAt t_readLaw t_readMany t_queueMany t_servedNow t_doneAt t_readings t_whichMany t_whichOne t_whichTwo t_traceNow t_kindOf)) (va_runV (As := [.int (-1)]) (rest := []) ⟨hx, hb, hml, hown, hts⟩ (c_Mo_refused l D cI cJ cS q_t q_t_kindOf q_t_comes q_t_wants q_t_runs q_t_readKind q_t_readComes q_t_readWants q_t_queueNow q_t_servedAt q_t_comesWas q_t_readingOf q_t_readingAt q_t_sheetSize q_t_sheetLane q_t_sheet q_t_hands t_fault t_persons t_law t_bellSet t_readAt t_readLaw t_readMany t_queueMany t_servedNow t_doneAt t_readings t_whichMany t_whichOne t_whichTwo t_traceNow (-1) y15 h16 _) (cwV 1 hts gX9_as_X9_refused rfl rfl rfl (by decide +kernel) ⟨(Nat.le_of_ble_eq_true rfl), (Nat.le_of_ble_eq_true rfl)⟩) (pre_V hK hP hD [0] rfl rfl rfl rfl) rfl rfl hl.1 rfl (lv_room (Nat.le_of_ble_eq_true rfl)) dX9_as_10 ⟨Nat.zero_le _, Nat.zero_le _⟩) hP hD hS hA [0] [1] [1, 0] rfl rfl rfl (by decide) rfl rfl (fun H locs hP hD hS => ?_)
    have hM := (Option.some.inj hM)
    subst hM
    exact rt_i hx hb hr hlocks hP hD hS dX9_as_13
/-! ===== TurnQueueModel.trace ===== -/
abbrev w_Mo_trace (cI cJ cS : ClassId) (q_t : Nat) (q_t_kindOf : Nat) (q_t_comes : Nat) (q_t_wants : Nat) (q_t_runs : Nat) (q_t_readKind : Nat) (q_t_readComes : Nat) (q_t_readWants : Nat) (q_t_queueNow : Nat) (q_t_servedAt : Nat) (q_t_comesWas : Nat) (q_t_readingOf : Nat) (q_t_readingAt : Nat) (q_t_sheetSize : Nat) (q_t_sheetLane : Nat) (q_t_sheet : Nat) (q_t_hands : Nat) (t_fault : Int32) (t_persons : Int32) (t_law : Int32) (t_bellSet : Int64) (t_readAt : Int32) (t_readLaw : Int32) (t_readMany : Int32) (t_queueMany : Int32) (t_servedNow : Int32) (t_doneAt : Int32) (t_readings : Int32) (t_whichMany : Int32) (t_whichOne : Int32) (t_whichTwo : Int32) (t_traceNow : Int32) : va_W := [(q_t, .inr (8, [.int t_fault, .int t_persons, .int t_law, .ref q_t_kindOf, .ref q_t_comes, .ref q_t_wants, .ref q_t_runs, .long t_bellSet, .int t_readAt, .int t_readLaw, .int t_readMany, .ref q_t_readKind, .ref q_t_readComes, .ref q_t_readWants, .ref q_t_queueNow, .int t_queueMany, .int t_servedNow, .int t_doneAt, .ref q_t_servedAt, .ref q_t_comesWas, .int t_readings, .ref q_t_readingOf, .ref q_t_readingAt, .int t_whichMany, .int t_whichOne, .int t_whichTwo, .ref q_t_sheetSize, .ref q_t_sheetLane, .ref q_t_sheet, .ref q_t_hands, .int t_traceNow]))]
abbrev rm_Mo_trace : Room := { frames := 0, cells := 0, slots := 0, locals := 0 }
noncomputable def Mo_trace (t_traceNow : Int32) : Option (Int32) :=
  some t_traceNow
set_option maxRecDepth 100000 in
set_option maxHeartbeats 4000000 in
theorem c_Mo_trace (l : Launch) (D : va_G) (cI cJ cS : ClassId) (q_t q_t_kindOf q_t_comes q_t_wants q_t_runs q_t_readKind q_t_readComes q_t_readWants q_t_queueNow q_t_servedAt q_t_comesWas q_t_readingOf q_t_readingAt q_t_sheetSize q_t_sheetLane q_t_sheet q_t_hands : Nat) (t_fault : Int32) (t_persons : Int32) (t_law : Int32) (t_bellSet : Int64) (t_readAt : Int32) (t_readLaw : Int32) (t_readMany : Int32) (t_queueMany : Int32) (t_servedNow : Int32) (t_doneAt : Int32) (t_readings : Int32) (t_whichMany : Int32) (t_whichOne : Int32) (t_whichTwo : Int32) (t_traceNow : Int32) (o : Int32) (hM : Mo_trace t_traceNow = some o) : Ci l yX9_trace wsX9_trace rm_Mo_trace D cI cJ cS [.ref q_t] (w_Mo_trace cI cJ cS q_t q_t_kindOf q_t_comes q_t_wants q_t_runs q_t_readKind q_t_readComes q_t_readWants q_t_queueNow q_t_servedAt q_t_comesWas q_t_readingOf q_t_readingAt q_t_sheetSize q_t_sheetLane q_t_sheet q_t_hands t_fault t_persons t_law t_bellSet t_readAt t_readLaw t_readMany t_queueMany t_servedNow t_doneAt t_readings t_whichMany t_whichOne t_whichTwo t_traceNow) (w_Mo_trace cI cJ cS q_t q_t_kindOf q_t_comes q_t_wants q_t_runs q_t_readKind q_t_readComes q_t_readWants q_t_queueNow q_t_servedAt q_t_comesWas q_t_readingOf q_t_readingAt q_t_sheetSize q_t_sheetLane q_t_sheet q_t_hands t_fault t_persons t_law t_bellSet t_readAt t_readLaw t_readMany t_queueMany t_servedNow t_doneAt t_readings t_whichMany t_whichOne t_whichTwo t_traceNow) o := by
  refine Ci.of (cc := cX9_trace) (maxL := 1) (ret := (some .int)) (by decide) rfl (Nat.le_of_ble_eq_true rfl) ?_
  intro p e s m args below meth c A ls hE
  obtain ⟨hx, hb, hr, hml, hown, hts, hlocks, hK, hA, hP, hD, hS, hl⟩ := hE
  have hown : s.vm.findClass RX9 = some m.cls := hown
  have hl : lv_has ls 1 [(0, .ref q_t)] := hl
  have iX9 : ∀ w ∈ u_ws RX9 TX9 31, w ∈ wsX9_trace := by decide +kernel
  have k0 := hts (.fieldLink RX9 234 "TurnQueueModel" "traceNow" "I") (by decide +kernel)
  unfold Mo_trace at hM
  refine lv_aload_n hx hb dX9_trace_0 rfl (lv_at hl 0 rfl) ?_
  refine va_get (ci := 8) (v := .int t_traceNow) (C := RX9) (T := TX9) (N := 31) hx hb hts iX9 hown hK.1 hP 0 rfl rfl 30 (Nat.le_of_ble_eq_true rfl) k0 (fun _ h9 => h9) rfl dX9_trace_1 ?_
  have hM := (Option.some.inj hM)
  subst hM
  exact rt_i hx hb hr hlocks hP hD hS dX9_trace_4
/-! ===== TurnQueueModel.fault ===== -/
abbrev w_Mo_fault (cI cJ cS : ClassId) (q_t : Nat) (q_t_kindOf : Nat) (q_t_comes : Nat) (q_t_wants : Nat) (q_t_runs : Nat) (q_t_readKind : Nat) (q_t_readComes : Nat) (q_t_readWants : Nat) (q_t_queueNow : Nat) (q_t_servedAt : Nat) (q_t_comesWas : Nat) (q_t_readingOf : Nat) (q_t_readingAt : Nat) (q_t_sheetSize : Nat) (q_t_sheetLane : Nat) (q_t_sheet : Nat) (q_t_hands : Nat) (t_fault : Int32) (t_persons : Int32) (t_law : Int32) (t_bellSet : Int64) (t_readAt : Int32) (t_readLaw : Int32) (t_readMany : Int32) (t_queueMany : Int32) (t_servedNow : Int32) (t_doneAt : Int32) (t_readings : Int32) (t_whichMany : Int32) (t_whichOne : Int32) (t_whichTwo : Int32) (t_traceNow : Int32) : va_W := [(q_t, .inr (8, [.int t_fault, .int t_persons, .int t_law, .ref q_t_kindOf, .ref q_t_comes, .ref q_t_wants, .ref q_t_runs, .long t_bellSet, .int t_readAt, .int t_readLaw, .int t_readMany, .ref q_t_readKind, .ref q_t_readComes, .ref q_t_readWants, .ref q_t_queueNow, .int t_queueMany, .int t_servedNow, .int t_doneAt, .ref q_t_servedAt, .ref q_t_comesWas, .int t_readings, .ref q_t_readingOf, .ref q_t_readingAt, .int t_whichMany, .int t_whichOne, .int t_whichTwo, .ref q_t_sheetSize, .ref q_t_sheetLane, .ref q_t_sheet, .ref q_t_hands, .int t_traceNow]))]
abbrev rm_Mo_fault : Room := { frames := 0, cells := 0, slots := 0, locals := 0 }
noncomputable def Mo_fault (t_fault : Int32) : Option (Int32) :=
  some t_fault
set_option maxRecDepth 100000 in
set_option maxHeartbeats 4000000 in
theorem c_Mo_fault (l : Launch) (D : va_G) (cI cJ cS : ClassId) (q_t q_t_kindOf q_t_comes q_t_wants q_t_runs q_t_readKind q_t_readComes q_t_readWants q_t_queueNow q_t_servedAt q_t_comesWas q_t_readingOf q_t_readingAt q_t_sheetSize q_t_sheetLane q_t_sheet q_t_hands : Nat) (t_fault : Int32) (t_persons : Int32) (t_law : Int32) (t_bellSet : Int64) (t_readAt : Int32) (t_readLaw : Int32) (t_readMany : Int32) (t_queueMany : Int32) (t_servedNow : Int32) (t_doneAt : Int32) (t_readings : Int32) (t_whichMany : Int32) (t_whichOne : Int32) (t_whichTwo : Int32) (t_traceNow : Int32) (o : Int32) (hM : Mo_fault t_fault = some o) : Ci l yX9_fault wsX9_fault rm_Mo_fault D cI cJ cS [.ref q_t] (w_Mo_fault cI cJ cS q_t q_t_kindOf q_t_comes q_t_wants q_t_runs q_t_readKind q_t_readComes q_t_readWants q_t_queueNow q_t_servedAt q_t_comesWas q_t_readingOf q_t_readingAt q_t_sheetSize q_t_sheetLane q_t_sheet q_t_hands t_fault t_persons t_law t_bellSet t_readAt t_readLaw t_readMany t_queueMany t_servedNow t_doneAt t_readings t_whichMany t_whichOne t_whichTwo t_traceNow) (w_Mo_fault cI cJ cS q_t q_t_kindOf q_t_comes q_t_wants q_t_runs q_t_readKind q_t_readComes q_t_readWants q_t_queueNow q_t_servedAt q_t_comesWas q_t_readingOf q_t_readingAt q_t_sheetSize q_t_sheetLane q_t_sheet q_t_hands t_fault t_persons t_law t_bellSet t_readAt t_readLaw t_readMany t_queueMany t_servedNow t_doneAt t_readings t_whichMany t_whichOne t_whichTwo t_traceNow) o := by
  refine Ci.of (cc := cX9_fault) (maxL := 1) (ret := (some .int)) (by decide) rfl (Nat.le_of_ble_eq_true rfl) ?_
  intro p e s m args below meth c A ls hE
  obtain ⟨hx, hb, hr, hml, hown, hts, hlocks, hK, hA, hP, hD, hS, hl⟩ := hE
  have hown : s.vm.findClass RX9 = some m.cls := hown
  have hl : lv_has ls 1 [(0, .ref q_t)] := hl
  have iX9 : ∀ w ∈ u_ws RX9 TX9 31, w ∈ wsX9_fault := by decide +kernel
  have k0 := hts (.fieldLink RX9 60 "TurnQueueModel" "fault" "I") (by decide +kernel)
  unfold Mo_fault at hM
  refine lv_aload_n hx hb dX9_fault_0 rfl (lv_at hl 0 rfl) ?_
  refine va_get (ci := 8) (v := .int t_fault) (C := RX9) (T := TX9) (N := 31) hx hb hts iX9 hown hK.1 hP 0 rfl rfl 0 (Nat.le_of_ble_eq_true rfl) k0 (fun _ h9 => h9) rfl dX9_fault_1 ?_
  have hM := (Option.some.inj hM)
  subst hM
  exact rt_i hx hb hr hlocks hP hD hS dX9_fault_4
/-! ===== TurnQueueModel.many ===== -/
abbrev w_Mo_many (cI cJ cS : ClassId) (q_t : Nat) (q_t_kindOf : Nat) (q_t_comes : Nat) (q_t_wants : Nat) (q_t_runs : Nat) (q_t_readKind : Nat) (q_t_readComes : Nat) (q_t_readWants : Nat) (q_t_queueNow : Nat) (q_t_servedAt : Nat) (q_t_comesWas : Nat) (q_t_readingOf : Nat) (q_t_readingAt : Nat) (q_t_sheetSize : Nat) (q_t_sheetLane : Nat) (q_t_sheet : Nat) (q_t_hands : Nat) (t_fault : Int32) (t_persons : Int32) (t_law : Int32) (t_bellSet : Int64) (t_readAt : Int32) (t_readLaw : Int32) (t_readMany : Int32) (t_queueMany : Int32) (t_servedNow : Int32) (t_doneAt : Int32) (t_readings : Int32) (t_whichMany : Int32) (t_whichOne : Int32) (t_whichTwo : Int32) (t_traceNow : Int32) : va_W := [(q_t, .inr (8, [.int t_fault, .int t_persons, .int t_law, .ref q_t_kindOf, .ref q_t_comes, .ref q_t_wants, .ref q_t_runs, .long t_bellSet, .int t_readAt, .int t_readLaw, .int t_readMany, .ref q_t_readKind, .ref q_t_readComes, .ref q_t_readWants, .ref q_t_queueNow, .int t_queueMany, .int t_servedNow, .int t_doneAt, .ref q_t_servedAt, .ref q_t_comesWas, .int t_readings, .ref q_t_readingOf, .ref q_t_readingAt, .int t_whichMany, .int t_whichOne, .int t_whichTwo, .ref q_t_sheetSize, .ref q_t_sheetLane, .ref q_t_sheet, .ref q_t_hands, .int t_traceNow]))]
abbrev rm_Mo_many : Room := { frames := 1, cells := 0, slots := 0, locals := 22 }
noncomputable def Mo_many_j35 (p_what : Int32) (t_persons : Int32) (t_law : Int32) (t_bellSet : Int64) (t_readings : Int32) (x2 : Int32) : Option (Int32) :=
  if p_what = 0 then
    some t_persons
  else
    if p_what = 1 then
      some t_law
    else
      if p_what = 2 then
        some x2
      else
        if p_what = 3 then
          some t_readings
        else
          some (-2)
noncomputable def Mo_many_b4 (p_what : Int32) (t_persons : Int32) (t_law : Int32) (t_bellSet : Int64) (t_readings : Int32) (x2 : Int32) (x3 : Int32) : Option ((Int32 × Int32) ⊕ (Int32)) :=
  if 60 ≤ x3 then
    ex (Mo_many_j35 p_what t_persons t_law t_bellSet t_readings x2)
  else
    (Mo_isBell t_bellSet x3).bind fun y6 =>
    if y6 = 0 then
      lt (x2 + 0) fun y9 =>
      lt (x3 + 1) fun y10 =>
      some (.inl (y9, y10))
    else
      lt (x2 + 1) fun y11 =>
      lt (x3 + 1) fun y12 =>
      some (.inl (y11, y12))
noncomputable def Mo_many_s4 (p_what : Int32) (t_persons : Int32) (t_law : Int32) (t_bellSet : Int64) (t_readings : Int32) : (Int32 × Int32) → Option ((Int32 × Int32) ⊕ (Int32)) := fun x => Mo_many_b4 p_what t_persons t_law t_bellSet t_readings x.1 x.2
noncomputable def Mo_many_l4 (p_what : Int32) (t_persons : Int32) (t_law : Int32) (t_bellSet : Int64) (t_readings : Int32) (x2 : Int32) (x3 : Int32) : Option (Int32) := fin (Mo_many_s4 p_what t_persons t_law t_bellSet t_readings) (x2, x3)
noncomputable def Mo_many (p_what : Int32) (t_persons : Int32) (t_law : Int32) (t_bellSet : Int64) (t_readings : Int32) : Option (Int32) :=
  Mo_many_l4 p_what t_persons t_law t_bellSet t_readings 0 0
theorem Mo_many_l4_eq (p_what : Int32) (t_persons : Int32) (t_law : Int32) (t_bellSet : Int64) (t_readings : Int32) (x2 : Int32) (x3 : Int32) : Mo_many_l4 p_what t_persons t_law t_bellSet t_readings x2 x3 = (Mo_many_b4 p_what t_persons t_law t_bellSet t_readings x2 x3).bind (sg (fin (Mo_many_s4 p_what t_persons t_law t_bellSet t_readings))) := by
  unfold Mo_many_l4
  exact fin_eq _ _
theorem Mo_many_l4_fd (p_what : Int32) (t_persons : Int32) (t_law : Int32) (t_bellSet : Int64) (t_readings : Int32) (x2 : Int32) (x3 : Int32) : fin (Mo_many_s4 p_what t_persons t_law t_bellSet t_readings) (x2, x3) = Mo_many_l4 p_what t_persons t_law t_bellSet t_readings x2 x3 := rfl
set_option maxRecDepth 100000 in
set_option maxHeartbeats 4000000 in
theorem c_Mo_many (l : Launch) (D : va_G) (cI cJ cS : ClassId) (q_t q_t_kindOf q_t_comes q_t_wants q_t_runs q_t_readKind q_t_readComes q_t_readWants q_t_queueNow q_t_servedAt q_t_comesWas q_t_readingOf q_t_readingAt q_t_sheetSize q_t_sheetLane q_t_sheet q_t_hands : Nat) (t_fault : Int32) (t_persons : Int32) (t_law : Int32) (t_bellSet : Int64) (t_readAt : Int32) (t_readLaw : Int32) (t_readMany : Int32) (t_queueMany : Int32) (t_servedNow : Int32) (t_doneAt : Int32) (t_readings : Int32) (t_whichMany : Int32) (t_whichOne : Int32) (t_whichTwo : Int32) (t_traceNow : Int32) (p_what : Int32) (o : Int32) (hM : Mo_many p_what t_persons t_law t_bellSet t_readings = some o) : Ci l yX9_many wsX9_many rm_Mo_many D cI cJ cS [.ref q_t, .int p_what] (w_Mo_many cI cJ cS q_t q_t_kindOf q_t_comes q_t_wants q_t_runs q_t_readKind q_t_readComes q_t_readWants q_t_queueNow q_t_servedAt q_t_comesWas q_t_readingOf q_t_readingAt q_t_sheetSize q_t_sheetLane q_t_sheet q_t_hands t_fault t_persons t_law t_bellSet t_readAt t_readLaw t_readMany t_queueMany t_servedNow t_doneAt t_readings t_whichMany t_whichOne t_whichTwo t_traceNow) (w_Mo_many cI cJ cS q_t q_t_kindOf q_t_comes q_t_wants q_t_runs q_t_readKind q_t_readComes q_t_readWants q_t_queueNow q_t_servedAt q_t_comesWas q_t_readingOf q_t_readingAt q_t_sheetSize q_t_sheetLane q_t_sheet q_t_hands t_fault t_persons t_law t_bellSet t_readAt t_readLaw t_readMany t_queueMany t_servedNow t_doneAt t_readings t_whichMany t_whichOne t_whichTwo t_traceNow) o := by
  refine Ci.of (cc := cX9_many) (maxL := 4) (ret := (some .int)) (by decide) rfl (Nat.le_of_ble_eq_true rfl) ?_
  intro p e s m args below meth c A ls hE
  obtain ⟨hx, hb, hr, hml, hown, hts, hlocks, hK, hA, hP, hD, hS, hl⟩ := hE
  have hown : s.vm.findClass RX9 = some m.cls := hown
  have hl : lv_has ls 4 [(0, .ref q_t), (1, .int p_what)] := hl
  have iX9 : ∀ w ∈ u_ws RX9 TX9 31, w ∈ wsX9_many := by decide +kernel
  have k0 := hts (.fieldLink RX9 68 "TurnQueueModel" "persons" "I") (by decide +kernel)
  have k1 := hts (.fieldLink RX9 118 "TurnQueueModel" "law" "I") (by decide +kernel)
  have k2 := hts (.fieldLink RX9 125 "TurnQueueModel" "readings" "I") (by decide +kernel)
  have k3 := hts (.fieldLink RX9 121 "TurnQueueModel" "bellSet" "J") (by decide +kernel)
  have J35 : ∀ (x2 : Int32), Mo_many_j35 p_what t_persons t_law t_bellSet t_readings x2 = some o → ∀ (H : Heap) (locs : List Loc), va_P D vwCl (w_Mo_many cI cJ cS q_t q_t_kindOf q_t_comes q_t_wants q_t_runs q_t_readKind q_t_readComes q_t_readWants q_t_queueNow q_t_servedAt q_t_comesWas q_t_readingOf q_t_readingAt q_t_sheetSize q_t_sheetLane q_t_sheet q_t_hands t_fault t_persons t_law t_bellSet t_readAt t_readLaw t_readMany t_queueMany t_servedNow t_doneAt t_readings t_whichMany t_whichOne t_whichTwo t_traceNow) H → va_D A (w_Mo_many cI cJ cS q_t q_t_kindOf q_t_comes q_t_wants q_t_runs q_t_readKind q_t_readComes q_t_readWants q_t_queueNow q_t_servedAt q_t_comesWas q_t_readingOf q_t_readingAt q_t_sheetSize q_t_sheetLane q_t_sheet q_t_hands t_fault t_persons t_law t_bellSet t_readAt t_readLaw t_readMany t_queueMany t_servedNow t_doneAt t_readings t_whichMany t_whichOne t_whichTwo t_traceNow) → va_S A s.heap H locs → ∀ ls : Array Slot, lv_has ls 4 [(0, .ref q_t), (1, .int p_what), (2, .int x2)] → W p l e (headSpec wsX9_many rm_Mo_many).room s m args below meth c H locs 0 0 (MQ below (CQi D (w_Mo_many cI cJ cS q_t q_t_kindOf q_t_comes q_t_wants q_t_runs q_t_readKind q_t_readComes q_t_readWants q_t_queueNow q_t_servedAt q_t_comesWas q_t_readingOf q_t_readingAt q_t_sheetSize q_t_sheetLane q_t_sheet q_t_hands t_fault t_persons t_law t_bellSet t_readAt t_readLaw t_readMany t_queueMany t_servedNow t_doneAt t_readings t_whichMany t_whichOne t_whichTwo t_traceNow) A o) args s 0 0 A) (F0 m 35 ls []) := by
    intro x2 hM H locs hP hD hS ls hl
    unfold Mo_many_j35 at hM
    refine lv_iload_n hx hb dX9_many_35 rfl (lv_at hl 1 rfl) ?_
    by_cases c2 : p_what = 0
    · have hM := (o_if hM).1 c2
      refine lv_tableIn (off := 32) (tgt := 68) hx hb dX9_many_36 (by rw [c2]; decide) (by rw [c2]; decide) (by rw [c2]; rfl) (by decide) ?_
      refine lv_aload_n hx hb dX9_many_68 rfl (lv_at hl 0 rfl) ?_
      refine va_get (ci := 8) (v := .int t_persons) (C := RX9) (T := TX9) (N := 31) hx hb hts iX9 hown hK.1 hP 0 rfl rfl 1 (Nat.le_of_ble_eq_true rfl) k0 (fun _ h9 => h9) rfl dX9_many_69 ?_
      have hM := (Option.some.inj hM)
      subst hM
      exact rt_i hx hb hr hlocks hP hD hS dX9_many_72
    have hM := (o_if hM).2 c2
    by_cases c3 : p_what = 1
    · have hM := (o_if hM).1 c3
      refine lv_tableIn (off := 37) (tgt := 73) hx hb dX9_many_36 (by rw [c3]; decide) (by rw [c3]; decide) (by rw [c3]; rfl) (by decide) ?_
      refine lv_aload_n hx hb dX9_many_73 rfl (lv_at hl 0 rfl) ?_
      refine va_get (ci := 8) (v := .int t_law) (C := RX9) (T := TX9) (N := 31) hx hb hts iX9 hown hK.1 hP 0 rfl rfl 2 (Nat.le_of_ble_eq_true rfl) k1 (fun _ h9 => h9) rfl dX9_many_74 ?_
      have hM := (Option.some.inj hM)
      subst hM
      exact rt_i hx hb hr hlocks hP hD hS dX9_many_77
    have hM := (o_if hM).2 c3
    by_cases c4 : p_what = 2
    · have hM := (o_if hM).1 c4
      refine lv_tableIn (off := 42) (tgt := 78) hx hb dX9_many_36 (by rw [c4]; decide) (by rw [c4]; decide) (by rw [c4]; rfl) (by decide) ?_
      refine lv_iload_n hx hb dX9_many_78 rfl (lv_at hl 2 rfl) ?_
      have hM := (Option.some.inj hM)
      subst hM
      exact rt_i hx hb hr hlocks hP hD hS dX9_many_79
    have hM := (o_if hM).2 c4
    by_cases c5 : p_what = 3
    · have hM := (o_if hM).1 c5
      refine lv_tableIn (off := 44) (tgt := 80) hx hb dX9_many_36 (by rw [c5]; decide) (by rw [c5]; decide) (by rw [c5]; rfl) (by decide) ?_
      refine lv_aload_n hx hb dX9_many_80 rfl (lv_at hl 0 rfl) ?_
      refine va_get (ci := 8) (v := .int t_readings) (C := RX9) (T := TX9) (N := 31) hx hb hts iX9 hown hK.1 hP 0 rfl rfl 20 (Nat.le_of_ble_eq_true rfl) k2 (fun _ h9 => h9) rfl dX9_many_81 ?_
      have hM := (Option.some.inj hM)
      subst hM
      exact rt_i hx hb hr hlocks hP hD hS dX9_many_84
    have hM := (o_if hM).2 c5
    refine lv_tableOut (tgt := 85) hx hb dX9_many_36 (by have q0 := lv_neT c2 (a := 0) rfl; have q1 := lv_neT c3 (a := 1) rfl; have q2 := lv_neT c4 (a := 2) rfl; have q3 := lv_neT c5 (a := 3) rfl; omega) (by decide) ?_
    refine lv_bipush (v := (-2)) hx hb dX9_many_85 (by decide) ?_
    have hM := (Option.some.inj hM)
    subst hM
    exact rt_i hx hb hr hlocks hP hD hS dX9_many_87
  have L4 : ∀ n : Nat, (∀ (x2 : Int32) (x3 : Int32), itr (Mo_many_s4 p_what t_persons t_law t_bellSet t_readings) n (x2, x3) = some o → ∀ (H : Heap) (locs : List Loc), va_P D vwCl (w_Mo_many cI cJ cS q_t q_t_kindOf q_t_comes q_t_wants q_t_runs q_t_readKind q_t_readComes q_t_readWants q_t_queueNow q_t_servedAt q_t_comesWas q_t_readingOf q_t_readingAt q_t_sheetSize q_t_sheetLane q_t_sheet q_t_hands t_fault t_persons t_law t_bellSet t_readAt t_readLaw t_readMany t_queueMany t_servedNow t_doneAt t_readings t_whichMany t_whichOne t_whichTwo t_traceNow) H → va_D A (w_Mo_many cI cJ cS q_t q_t_kindOf q_t_comes q_t_wants q_t_runs q_t_readKind q_t_readComes q_t_readWants q_t_queueNow q_t_servedAt q_t_comesWas q_t_readingOf q_t_readingAt q_t_sheetSize q_t_sheetLane q_t_sheet q_t_hands t_fault t_persons t_law t_bellSet t_readAt t_readLaw t_readMany t_queueMany t_servedNow t_doneAt t_readings t_whichMany t_whichOne t_whichTwo t_traceNow) → va_S A s.heap H locs → ∀ ls : Array Slot, lv_has ls 4 [(0, .ref q_t), (1, .int p_what), (2, .int x2), (3, .int x3)] → W p l e (headSpec wsX9_many rm_Mo_many).room s m args below meth c H locs 0 0 (MQ below (CQi D (w_Mo_many cI cJ cS q_t q_t_kindOf q_t_comes q_t_wants q_t_runs q_t_readKind q_t_readComes q_t_readWants q_t_queueNow q_t_servedAt q_t_comesWas q_t_readingOf q_t_readingAt q_t_sheetSize q_t_sheetLane q_t_sheet q_t_hands t_fault t_persons t_law t_bellSet t_readAt t_readLaw t_readMany t_queueMany t_servedNow t_doneAt t_readings t_whichMany t_whichOne t_whichTwo t_traceNow) A o) args s 0 0 A) (F0 m 4 ls [])) := by
    intro n
    induction n with
    | zero => exact fun _ _ hM => (itr_0 hM).elim
    | succ n ih =>
      intro x2 x3 hM H locs hP hD hS ls hl
      have hM : (Mo_many_b4 p_what t_persons t_law t_bellSet t_readings x2 x3).bind (sg (itr (Mo_many_s4 p_what t_persons t_law t_bellSet t_readings) n)) = some o := hM
      unfold Mo_many_b4 at hM
      refine lv_iload_n hx hb dX9_many_4 rfl (lv_at hl 3 rfl) ?_
      refine lv_bipush (v := 60) hx hb dX9_many_5 (by decide) ?_
      refine lv_icmp_ge (tgt := 35) hx hb dX9_many_7 (by decide) (fun c1 => ?_) (fun c1 => ?_)
      · have hM := (s_if hM).1 c1
        exact J35 x2 (s_ex hM) _ _ hP hD hS _ (lv_sub hl [0, 1, 2] rfl)
      · have hM := (s_if hM).2 c1
        refine lv_iload_n hx hb dX9_many_10 rfl (lv_at hl 2 rfl) ?_
        refine lv_aload_n hx hb dX9_many_11 rfl (lv_at hl 0 rfl) ?_
        refine va_get (ci := 8) (v := .long t_bellSet) (C := RX9) (T := TX9) (N := 31) hx hb hts iX9 hown hK.1 hP 0 rfl rfl 7 (Nat.le_of_ble_eq_true rfl) k3 (fun _ h9 => h9) rfl dX9_many_12 ?_
        refine lv_iload_n hx hb dX9_many_15 rfl (lv_at hl 3 rfl) ?_
        obtain ⟨y6, h7, hM⟩ := s_bd hM
        refine af_i (ws2 := (w_Mo_many cI cJ cS q_t q_t_kindOf q_t_comes q_t_wants q_t_runs q_t_readKind q_t_readComes q_t_readWants q_t_queueNow q_t_servedAt q_t_comesWas q_t_readingOf q_t_readingAt q_t_sheetSize q_t_sheetLane q_t_sheet q_t_hands t_fault t_persons t_law t_bellSet t_readAt t_readLaw t_readMany t_queueMany t_servedNow t_doneAt t_readings t_whichMany t_whichOne t_whichTwo t_traceNow)) (va_runS (As := [.long t_bellSet, .int x3]) (rest := [.int x2]) ⟨hx, hb, hml, hown, hts⟩ (c_Mo_isBell l D cI cJ cS t_bellSet x3 y6 h7 _) (va_cwS 2 hts gX9_many_X9_isBell rfl rfl rfl (by decide +kernel) ⟨(Nat.le_of_ble_eq_true rfl), (Nat.le_of_ble_eq_true rfl)⟩) (pre_S hK hP hD [] rfl rfl) rfl rfl hl.1 rfl (lv_room (Nat.le_of_ble_eq_true rfl)) dX9_many_16 ⟨Nat.zero_le _, Nat.zero_le _⟩) hP hD hS hA [] [0] [0] rfl rfl rfl (by decide) rfl rfl (fun H locs hP hD hS => ?_)
        refine lv_if_eq (tgt := 26) hx hb dX9_many_19 (by decide) (fun c8 => ?_) (fun c8 => ?_)
        · have hM := (s_if hM).1 c8
          refine lv_iconst (v := 0) hx hb dX9_many_26 (by decide) ?_
          refine lv_iadd hx hb dX9_many_27 ?_
          refine lv_topi (fun y9 ey9 => ?_)
          have hM := s_lt hM y9 ey9
          refine lv_istore_n (lv' := [(2, .int y9), (0, .ref q_t), (1, .int p_what), (3, .int x3)]) hx hb dX9_many_28 rfl hl (Nat.le_of_ble_eq_true rfl) rfl (fun ls hl => ?_)
          obtain ⟨y10, ey10⟩ : ∃ y : Int32, y = x3 + 1 := ⟨_, rfl⟩
          have hM := s_lt hM y10 ey10
          refine lv_iinc (v := y10) (lv' := [(3, .int y10), (2, .int y9), (0, .ref q_t), (1, .int p_what)]) hx hb dX9_many_29 hl (k := 3) rfl (by rw [ey10]; rfl) (Nat.le_of_ble_eq_true rfl) rfl (fun ls hl => ?_)
          refine lv_goto (tgt := 4) hx hb dX9_many_32 (by decide) ?_
          exact ih y9 y10 (s_jp hM) _ _ hP hD hS _ (lv_sub hl [2, 3, 1, 0] rfl)
        · have hM := (s_if hM).2 c8
          refine lv_iconst (v := 1) hx hb dX9_many_22 (by decide) ?_
          refine lv_goto (tgt := 27) hx hb dX9_many_23 (by decide) ?_
          refine lv_iadd hx hb dX9_many_27 ?_
          refine lv_topi (fun y11 ey11 => ?_)
          have hM := s_lt hM y11 ey11
          refine lv_istore_n (lv' := [(2, .int y11), (0, .ref q_t), (1, .int p_what), (3, .int x3)]) hx hb dX9_many_28 rfl hl (Nat.le_of_ble_eq_true rfl) rfl (fun ls hl => ?_)
          obtain ⟨y12, ey12⟩ : ∃ y : Int32, y = x3 + 1 := ⟨_, rfl⟩
          have hM := s_lt hM y12 ey12
          refine lv_iinc (v := y12) (lv' := [(3, .int y12), (2, .int y11), (0, .ref q_t), (1, .int p_what)]) hx hb dX9_many_29 hl (k := 3) rfl (by rw [ey12]; rfl) (Nat.le_of_ble_eq_true rfl) rfl (fun ls hl => ?_)
          refine lv_goto (tgt := 4) hx hb dX9_many_32 (by decide) ?_
          exact ih y11 y12 (s_jp hM) _ _ hP hD hS _ (lv_sub hl [2, 3, 1, 0] rfl)
  have J4 : ∀ (x2 : Int32) (x3 : Int32), Mo_many_l4 p_what t_persons t_law t_bellSet t_readings x2 x3 = some o → ∀ (H : Heap) (locs : List Loc), va_P D vwCl (w_Mo_many cI cJ cS q_t q_t_kindOf q_t_comes q_t_wants q_t_runs q_t_readKind q_t_readComes q_t_readWants q_t_queueNow q_t_servedAt q_t_comesWas q_t_readingOf q_t_readingAt q_t_sheetSize q_t_sheetLane q_t_sheet q_t_hands t_fault t_persons t_law t_bellSet t_readAt t_readLaw t_readMany t_queueMany t_servedNow t_doneAt t_readings t_whichMany t_whichOne t_whichTwo t_traceNow) H → va_D A (w_Mo_many cI cJ cS q_t q_t_kindOf q_t_comes q_t_wants q_t_runs q_t_readKind q_t_readComes q_t_readWants q_t_queueNow q_t_servedAt q_t_comesWas q_t_readingOf q_t_readingAt q_t_sheetSize q_t_sheetLane q_t_sheet q_t_hands t_fault t_persons t_law t_bellSet t_readAt t_readLaw t_readMany t_queueMany t_servedNow t_doneAt t_readings t_whichMany t_whichOne t_whichTwo t_traceNow) → va_S A s.heap H locs → ∀ ls : Array Slot, lv_has ls 4 [(0, .ref q_t), (1, .int p_what), (2, .int x2), (3, .int x3)] → W p l e (headSpec wsX9_many rm_Mo_many).room s m args below meth c H locs 0 0 (MQ below (CQi D (w_Mo_many cI cJ cS q_t q_t_kindOf q_t_comes q_t_wants q_t_runs q_t_readKind q_t_readComes q_t_readWants q_t_queueNow q_t_servedAt q_t_comesWas q_t_readingOf q_t_readingAt q_t_sheetSize q_t_sheetLane q_t_sheet q_t_hands t_fault t_persons t_law t_bellSet t_readAt t_readLaw t_readMany t_queueMany t_servedNow t_doneAt t_readings t_whichMany t_whichOne t_whichTwo t_traceNow) A o) args s 0 0 A) (F0 m 4 ls []) := by
    intro x2 x3 hM
    unfold Mo_many_l4 at hM
    obtain ⟨n0, hM⟩ := fin_some hM
    exact (L4 n0) x2 x3 hM
  unfold Mo_many at hM
  refine lv_iconst (v := 0) hx hb dX9_many_0 (by decide) ?_
  refine lv_istore_n (lv' := [(2, .int 0), (0, .ref q_t), (1, .int p_what)]) hx hb dX9_many_1 rfl hl (Nat.le_of_ble_eq_true rfl) rfl (fun ls hl => ?_)
  refine lv_iconst (v := 0) hx hb dX9_many_2 (by decide) ?_
  refine lv_istore_n (lv' := [(3, .int 0), (2, .int 0), (0, .ref q_t), (1, .int p_what)]) hx hb dX9_many_3 rfl hl (Nat.le_of_ble_eq_true rfl) rfl (fun ls hl => ?_)
  exact J4 0 0 hM _ _ hP hD hS _ (lv_sub hl [2, 3, 1, 0] rfl)

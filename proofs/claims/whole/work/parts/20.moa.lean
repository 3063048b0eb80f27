/-! ===== TurnQueueModel.in ===== -/
abbrev w_Mo_in (cI cJ cS : ClassId) : va_W := []
abbrev rm_Mo_in : Room := { frames := 0, cells := 0, slots := 0, locals := 0 }
noncomputable def Mo_in (p_v : Int64) (p_l : Int64) (p_h : Int64) : Option (Int32) :=
  if (lg_cmp p_v p_l) < 0 then
    some 0
  else
    if 0 < (lg_cmp p_v p_h) then
      some 0
    else
      some 1
set_option maxRecDepth 100000 in
set_option maxHeartbeats 4000000 in
theorem c_Mo_in (l : Launch) (D : va_G) (cI cJ cS : ClassId) (p_v : Int64) (p_l : Int64) (p_h : Int64) (o : Int32) (hM : Mo_in p_v p_l p_h = some o) : Ci l yX9_in wsX9_in rm_Mo_in D cI cJ cS [.long p_v, .long p_l, .long p_h] (w_Mo_in cI cJ cS) (w_Mo_in cI cJ cS) o := by
  refine Ci.of (cc := cX9_in) (maxL := 6) (ret := (some .boolean)) (by decide) rfl (Nat.le_of_ble_eq_true rfl) ?_
  intro p e s m args below meth c A ls hE
  obtain ⟨hx, hb, hr, hml, hown, hts, hlocks, hK, hA, hP, hD, hS, hl⟩ := hE
  have hown : s.vm.findClass RX9 = some m.cls := hown
  have hl : lv_has ls 6 [(0, .long p_v), (2, .long p_l), (4, .long p_h)] := hl
  unfold Mo_in at hM
  refine lv_lload_n hx hb dX9_in_0 rfl (lv_at hl 0 rfl) ?_
  refine lv_lload_n hx hb dX9_in_1 rfl (lv_at hl 1 rfl) ?_
  refine W.lcmp hx hb dX9_in_2 ?_
  refine lv_if_lt (tgt := 17) hx hb dX9_in_3 (by decide) (fun c1 => ?_) (fun c1 => ?_)
  · have hM := (o_if hM).1 c1
    refine lv_iconst (v := 0) hx hb dX9_in_17 (by decide) ?_
    have hM := (Option.some.inj hM)
    subst hM
    exact rt_z hx hb hr hlocks hP hD hS (show narrow .boolean (.int 0) = .int 0 from rfl) dX9_in_18
  · have hM := (o_if hM).2 c1
    refine lv_lload_n hx hb dX9_in_6 rfl (lv_at hl 0 rfl) ?_
    refine lv_lload hx hb dX9_in_7 (lv_at hl 2 rfl) ?_
    refine W.lcmp hx hb dX9_in_9 ?_
    refine lv_if_gt (tgt := 17) hx hb dX9_in_10 (by decide) (fun c2 => ?_) (fun c2 => ?_)
    · have hM := (o_if hM).1 c2
      refine lv_iconst (v := 0) hx hb dX9_in_17 (by decide) ?_
      have hM := (Option.some.inj hM)
      subst hM
      exact rt_z hx hb hr hlocks hP hD hS (show narrow .boolean (.int 0) = .int 0 from rfl) dX9_in_18
    · have hM := (o_if hM).2 c2
      refine lv_iconst (v := 1) hx hb dX9_in_13 (by decide) ?_
      refine lv_goto (tgt := 18) hx hb dX9_in_14 (by decide) ?_
      have hM := (Option.some.inj hM)
      subst hM
      exact rt_z hx hb hr hlocks hP hD hS (show narrow .boolean (.int 1) = .int 1 from rfl) dX9_in_18
/-! ===== TurnQueueModel.lost ===== -/
abbrev w_Mo_lost (cI cJ cS : ClassId) : va_W := []
abbrev rm_Mo_lost : Room := { frames := 0, cells := 0, slots := 0, locals := 0 }
noncomputable def Mo_lost : Option (Int64) :=
  some (-9223372036854775808)
set_option maxRecDepth 100000 in
set_option maxHeartbeats 4000000 in
theorem c_Mo_lost (l : Launch) (D : va_G) (cI cJ cS : ClassId) (o : Int64) (hM : Mo_lost = some o) : Cl l yX9_lost wsX9_lost rm_Mo_lost D cI cJ cS [] (w_Mo_lost cI cJ cS) (w_Mo_lost cI cJ cS) o := by
  refine Cl.of (cc := cX9_lost) (maxL := 0) (ret := (some .long)) (by decide) rfl (Nat.le_of_ble_eq_true rfl) ?_
  intro p e s m args below meth c A ls hE
  obtain ⟨hx, hb, hr, hml, hown, hts, hlocks, hK, hA, hP, hD, hS, hl⟩ := hE
  have hown : s.vm.findClass RX9 = some m.cls := hown
  have hl : lv_has ls 0 [] := hl
  have k0 := hts (.constantLong RX9 58 (-9223372036854775808)) (by decide +kernel)
  unfold Mo_lost at hM
  refine lv_ldc2 (v := (-9223372036854775808)) hx hb hown k0 dX9_lost_0 ?_
  have hM := (Option.some.inj hM)
  subst hM
  exact rt_l hx hb hr hlocks hP hD hS dX9_lost_3
/-! ===== TurnQueueModel.told ===== -/
abbrev w_Mo_told (cI cJ cS : ClassId) : va_W := []
abbrev rm_Mo_told : Room := { frames := 0, cells := 0, slots := 0, locals := 0 }
noncomputable def Mo_told_j31 (p_up : Int64) (p_down : Int64) (p_which : Int32) (x5 : Int64) : Option (Int64) :=
  if p_which = 0 then
    if ¬ x5 = 0 then
      some (p_up / x5)
    else none
  else
    if ¬ x5 = 0 then
      some (p_down / x5)
    else none
noncomputable def Mo_told_b6 (p_up : Int64) (p_down : Int64) (p_which : Int32) (x5 : Int64) (x7 : Int64) : Option ((Int64 × Int64) ⊕ (Int64)) :=
  if (lg_cmp x7 0) = 0 then
    ex (Mo_told_j31 p_up p_down p_which x5)
  else
    if ¬ x7 = 0 then
      lt (x5 - x5 / x7 * x7) fun y6 =>
      some (.inl (x7, y6))
    else none
noncomputable def Mo_told_s6 (p_up : Int64) (p_down : Int64) (p_which : Int32) : (Int64 × Int64) → Option ((Int64 × Int64) ⊕ (Int64)) := fun x => Mo_told_b6 p_up p_down p_which x.1 x.2
noncomputable def Mo_told_l6 (p_up : Int64) (p_down : Int64) (p_which : Int32) (x5 : Int64) (x7 : Int64) : Option (Int64) := fin (Mo_told_s6 p_up p_down p_which) (x5, x7)
noncomputable def Mo_told (p_up : Int64) (p_down : Int64) (p_which : Int32) : Option (Int64) :=
  Mo_told_l6 p_up p_down p_which p_up p_down
theorem Mo_told_l6_eq (p_up : Int64) (p_down : Int64) (p_which : Int32) (x5 : Int64) (x7 : Int64) : Mo_told_l6 p_up p_down p_which x5 x7 = (Mo_told_b6 p_up p_down p_which x5 x7).bind (sg (fin (Mo_told_s6 p_up p_down p_which))) := by
  unfold Mo_told_l6
  exact fin_eq _ _
theorem Mo_told_l6_fd (p_up : Int64) (p_down : Int64) (p_which : Int32) (x5 : Int64) (x7 : Int64) : fin (Mo_told_s6 p_up p_down p_which) (x5, x7) = Mo_told_l6 p_up p_down p_which x5 x7 := rfl
set_option maxRecDepth 100000 in
set_option maxHeartbeats 4000000 in
theorem c_Mo_told (l : Launch) (D : va_G) (cI cJ cS : ClassId) (p_up : Int64) (p_down : Int64) (p_which : Int32) (o : Int64) (hM : Mo_told p_up p_down p_which = some o) : Cl l yX9_told wsX9_told rm_Mo_told D cI cJ cS [.long p_up, .long p_down, .int p_which] (w_Mo_told cI cJ cS) (w_Mo_told cI cJ cS) o := by
  refine Cl.of (cc := cX9_told) (maxL := 11) (ret := (some .long)) (by decide) rfl (Nat.le_of_ble_eq_true rfl) ?_
  intro p e s m args below meth c A ls hE
  obtain ⟨hx, hb, hr, hml, hown, hts, hlocks, hK, hA, hP, hD, hS, hl⟩ := hE
  have hown : s.vm.findClass RX9 = some m.cls := hown
  have hl : lv_has ls 11 [(0, .long p_up), (2, .long p_down), (4, .int p_which)] := hl
  have J31 : ∀ (x5 : Int64), Mo_told_j31 p_up p_down p_which x5 = some o → ∀ (H : Heap) (locs : List Loc), va_P D vwCl (w_Mo_told cI cJ cS) H → va_D A (w_Mo_told cI cJ cS) → va_S A s.heap H locs → ∀ ls : Array Slot, lv_has ls 11 [(0, .long p_up), (2, .long p_down), (4, .int p_which), (5, .long x5)] → W p l e (headSpec wsX9_told rm_Mo_told).room s m args below meth c H locs 0 0 (MQ below (CQl D (w_Mo_told cI cJ cS) A o) args s 0 0 A) (F0 m 31 ls []) := by
    intro x5 hM H locs hP hD hS ls hl
    unfold Mo_told_j31 at hM
    refine lv_iload hx hb dX9_told_31 (lv_at hl 2 rfl) ?_
    refine lv_if_ne (tgt := 40) hx hb dX9_told_33 (by decide) (fun c2 => ?_) (fun c2 => ?_)
    · have hM := (o_if hM).2 c2
      refine lv_lload_n hx hb dX9_told_40 rfl (lv_at hl 1 rfl) ?_
      refine lv_lload hx hb dX9_told_41 (lv_at hl 3 rfl) ?_
      obtain ⟨h3, hM⟩ := o_gd hM
      refine lv_ldiv hx hb dX9_told_43 h3 ?_
      have hM := (Option.some.inj hM)
      subst hM
      exact rt_l hx hb hr hlocks hP hD hS dX9_told_44
    · have hM := (o_if hM).1 c2
      refine lv_lload_n hx hb dX9_told_36 rfl (lv_at hl 0 rfl) ?_
      refine lv_goto (tgt := 41) hx hb dX9_told_37 (by decide) ?_
      refine lv_lload hx hb dX9_told_41 (lv_at hl 3 rfl) ?_
      obtain ⟨h4, hM⟩ := o_gd hM
      refine lv_ldiv hx hb dX9_told_43 h4 ?_
      have hM := (Option.some.inj hM)
      subst hM
      exact rt_l hx hb hr hlocks hP hD hS dX9_told_44
  have L6 : ∀ n : Nat, (∀ (x5 : Int64) (x7 : Int64), itr (Mo_told_s6 p_up p_down p_which) n (x5, x7) = some o → ∀ (H : Heap) (locs : List Loc), va_P D vwCl (w_Mo_told cI cJ cS) H → va_D A (w_Mo_told cI cJ cS) → va_S A s.heap H locs → ∀ ls : Array Slot, lv_has ls 11 [(0, .long p_up), (2, .long p_down), (4, .int p_which), (5, .long x5), (7, .long x7)] → W p l e (headSpec wsX9_told rm_Mo_told).room s m args below meth c H locs 0 0 (MQ below (CQl D (w_Mo_told cI cJ cS) A o) args s 0 0 A) (F0 m 6 ls [])) := by
    intro n
    induction n with
    | zero => exact fun _ _ hM => (itr_0 hM).elim
    | succ n ih =>
      intro x5 x7 hM H locs hP hD hS ls hl
      have hM : (Mo_told_b6 p_up p_down p_which x5 x7).bind (sg (itr (Mo_told_s6 p_up p_down p_which) n)) = some o := hM
      unfold Mo_told_b6 at hM
      refine lv_lload hx hb dX9_told_6 (lv_at hl 4 rfl) ?_
      refine lv_lconst (v := 0) hx hb dX9_told_8 (by decide) ?_
      refine W.lcmp hx hb dX9_told_9 ?_
      refine lv_if_eq (tgt := 31) hx hb dX9_told_10 (by decide) (fun c1 => ?_) (fun c1 => ?_)
      · have hM := (s_if hM).1 c1
        exact J31 x5 (s_ex hM) _ _ hP hD hS _ (lv_sub hl [0, 1, 2, 3] rfl)
      · have hM := (s_if hM).2 c1
        refine lv_lload hx hb dX9_told_13 (lv_at hl 3 rfl) ?_
        refine lv_lload hx hb dX9_told_15 (lv_at hl 4 rfl) ?_
        obtain ⟨h5, hM⟩ := s_gd hM
        refine lv_lrem hx hb dX9_told_17 h5 ?_
        refine lv_topl (fun y6 ey6 => ?_)
        have hM := s_lt hM y6 ey6
        refine lv_lstore (lv' := [(9, .long y6), (0, .long p_up), (2, .long p_down), (4, .int p_which), (5, .long x5), (7, .long x7)]) hx hb dX9_told_18 hl (Nat.le_of_ble_eq_true rfl) rfl (fun ls hl => ?_)
        refine lv_lload hx hb dX9_told_20 (lv_at hl 5 rfl) ?_
        refine lv_lstore (lv' := [(5, .long x7), (9, .long y6), (0, .long p_up), (2, .long p_down), (4, .int p_which), (7, .long x7)]) hx hb dX9_told_22 hl (Nat.le_of_ble_eq_true rfl) rfl (fun ls hl => ?_)
        refine lv_lload hx hb dX9_told_24 (lv_at hl 1 rfl) ?_
        refine lv_lstore (lv' := [(7, .long y6), (5, .long x7), (9, .long y6), (0, .long p_up), (2, .long p_down), (4, .int p_which)]) hx hb dX9_told_26 hl (Nat.le_of_ble_eq_true rfl) rfl (fun ls hl => ?_)
        refine lv_goto (tgt := 6) hx hb dX9_told_28 (by decide) ?_
        exact ih x7 y6 (s_jp hM) _ _ hP hD hS _ (lv_sub hl [3, 4, 5, 1, 0] rfl)
  have J6 : ∀ (x5 : Int64) (x7 : Int64), Mo_told_l6 p_up p_down p_which x5 x7 = some o → ∀ (H : Heap) (locs : List Loc), va_P D vwCl (w_Mo_told cI cJ cS) H → va_D A (w_Mo_told cI cJ cS) → va_S A s.heap H locs → ∀ ls : Array Slot, lv_has ls 11 [(0, .long p_up), (2, .long p_down), (4, .int p_which), (5, .long x5), (7, .long x7)] → W p l e (headSpec wsX9_told rm_Mo_told).room s m args below meth c H locs 0 0 (MQ below (CQl D (w_Mo_told cI cJ cS) A o) args s 0 0 A) (F0 m 6 ls []) := by
    intro x5 x7 hM
    unfold Mo_told_l6 at hM
    obtain ⟨n0, hM⟩ := fin_some hM
    exact (L6 n0) x5 x7 hM
  unfold Mo_told at hM
  refine lv_lload_n hx hb dX9_told_0 rfl (lv_at hl 0 rfl) ?_
  refine lv_lstore (lv' := [(5, .long p_up), (0, .long p_up), (2, .long p_down), (4, .int p_which)]) hx hb dX9_told_1 hl (Nat.le_of_ble_eq_true rfl) rfl (fun ls hl => ?_)
  refine lv_lload_n hx hb dX9_told_3 rfl (lv_at hl 2 rfl) ?_
  refine lv_lstore (lv' := [(7, .long p_down), (5, .long p_up), (0, .long p_up), (2, .long p_down), (4, .int p_which)]) hx hb dX9_told_4 hl (Nat.le_of_ble_eq_true rfl) rfl (fun ls hl => ?_)
  exact J6 p_up p_down hM _ _ hP hD hS _ (lv_sub hl [2, 3, 4, 1, 0] rfl)
/-! ===== TurnQueueModel.refused ===== -/
abbrev w_Mo_refused (cI cJ cS : ClassId) (q_t : Nat) (q_t_kindOf : Nat) (q_t_comes : Nat) (q_t_wants : Nat) (q_t_runs : Nat) (q_t_readKind : Nat) (q_t_readComes : Nat) (q_t_readWants : Nat) (q_t_queueNow : Nat) (q_t_servedAt : Nat) (q_t_comesWas : Nat) (q_t_readingOf : Nat) (q_t_readingAt : Nat) (q_t_sheetSize : Nat) (q_t_sheetLane : Nat) (q_t_sheet : Nat) (q_t_hands : Nat) (t_fault : Int32) (t_persons : Int32) (t_law : Int32) (t_bellSet : Int64) (t_readAt : Int32) (t_readLaw : Int32) (t_readMany : Int32) (t_queueMany : Int32) (t_servedNow : Int32) (t_doneAt : Int32) (t_readings : Int32) (t_whichMany : Int32) (t_whichOne : Int32) (t_whichTwo : Int32) (t_traceNow : Int32) : va_W := [(q_t, .inr (8, [.int t_fault, .int t_persons, .int t_law, .ref q_t_kindOf, .ref q_t_comes, .ref q_t_wants, .ref q_t_runs, .long t_bellSet, .int t_readAt, .int t_readLaw, .int t_readMany, .ref q_t_readKind, .ref q_t_readComes, .ref q_t_readWants, .ref q_t_queueNow, .int t_queueMany, .int t_servedNow, .int t_doneAt, .ref q_t_servedAt, .ref q_t_comesWas, .int t_readings, .ref q_t_readingOf, .ref q_t_readingAt, .int t_whichMany, .int t_whichOne, .int t_whichTwo, .ref q_t_sheetSize, .ref q_t_sheetLane, .ref q_t_sheet, .ref q_t_hands, .int t_traceNow]))]
abbrev rm_Mo_refused : Room := { frames := 0, cells := 0, slots := 0, locals := 0 }
noncomputable def Mo_refused (p_code : Int32) (t_fault : Int32) : Option (Int32 × Int32) :=
  some (p_code, 0)
set_option maxRecDepth 100000 in
set_option maxHeartbeats 4000000 in
theorem c_Mo_refused (l : Launch) (D : va_G) (cI cJ cS : ClassId) (q_t q_t_kindOf q_t_comes q_t_wants q_t_runs q_t_readKind q_t_readComes q_t_readWants q_t_queueNow q_t_servedAt q_t_comesWas q_t_readingOf q_t_readingAt q_t_sheetSize q_t_sheetLane q_t_sheet q_t_hands : Nat) (t_fault : Int32) (t_persons : Int32) (t_law : Int32) (t_bellSet : Int64) (t_readAt : Int32) (t_readLaw : Int32) (t_readMany : Int32) (t_queueMany : Int32) (t_servedNow : Int32) (t_doneAt : Int32) (t_readings : Int32) (t_whichMany : Int32) (t_whichOne : Int32) (t_whichTwo : Int32) (t_traceNow : Int32) (p_code : Int32) (o : Int32 × Int32) (hM : Mo_refused p_code t_fault = some o) : Ci l yX9_refused wsX9_refused rm_Mo_refused D cI cJ cS [.ref q_t, .int p_code] (w_Mo_refused cI cJ cS q_t q_t_kindOf q_t_comes q_t_wants q_t_runs q_t_readKind q_t_readComes q_t_readWants q_t_queueNow q_t_servedAt q_t_comesWas q_t_readingOf q_t_readingAt q_t_sheetSize q_t_sheetLane q_t_sheet q_t_hands t_fault t_persons t_law t_bellSet t_readAt t_readLaw t_readMany t_queueMany t_servedNow t_doneAt t_readings t_whichMany t_whichOne t_whichTwo t_traceNow) (w_Mo_refused cI cJ cS q_t q_t_kindOf q_t_comes q_t_wants q_t_runs q_t_readKind q_t_readComes q_t_readWants q_t_queueNow q_t_servedAt q_t_comesWas q_t_readingOf q_t_readingAt q_t_sheetSize q_t_sheetLane q_t_sheet q_t_hands o.2 t_persons t_law t_bellSet t_readAt t_readLaw t_readMany t_queueMany t_servedNow t_doneAt t_readings t_whichMany t_whichOne t_whichTwo t_traceNow) o.1 := by
  refine Ci.of (cc := cX9_refused) (maxL := 2) (ret := (some .int)) (by decide) rfl (Nat.le_of_ble_eq_true rfl) ?_
  intro p e s m args below meth c A ls hE
  obtain ⟨hx, hb, hr, hml, hown, hts, hlocks, hK, hA, hP, hD, hS, hl⟩ := hE
  have hown : s.vm.findClass RX9 = some m.cls := hown
  have hl : lv_has ls 2 [(0, .ref q_t), (1, .int p_code)] := hl
  have iX9 : ∀ w ∈ u_ws RX9 TX9 31, w ∈ wsX9_refused := by decide +kernel
  have k0 := hts (.fieldLink RX9 60 "TurnQueueModel" "fault" "I") (by decide +kernel)
  unfold Mo_refused at hM
  refine lv_aload_n hx hb dX9_refused_0 rfl (lv_at hl 0 rfl) ?_
  refine lv_iconst (v := 0) hx hb dX9_refused_1 (by decide) ?_
  refine va_put (ci := 8) (v := .int 0) (ty := .int) (C := RX9) (T := TX9) (N := 31) hx hb hts iX9 tyX9 tyX9_ok nmX9 hown hK.1 hP hD hS 0 rfl rfl 0 (Nat.le_of_ble_eq_true rfl) k0 (fun _ h9 => h9) rfl (tyX9_ok 0 (Nat.le_of_ble_eq_true rfl)) rfl rfl (Nat.le_of_ble_eq_true rfl) dX9_refused_2 (fun H locs hP hD hS => ?_)
  have hP : va_P D vwCl (w_Mo_refused cI cJ cS q_t q_t_kindOf q_t_comes q_t_wants q_t_runs q_t_readKind q_t_readComes q_t_readWants q_t_queueNow q_t_servedAt q_t_comesWas q_t_readingOf q_t_readingAt q_t_sheetSize q_t_sheetLane q_t_sheet q_t_hands 0 t_persons t_law t_bellSet t_readAt t_readLaw t_readMany t_queueMany t_servedNow t_doneAt t_readings t_whichMany t_whichOne t_whichTwo t_traceNow) H := hP
  have hD : va_D A (w_Mo_refused cI cJ cS q_t q_t_kindOf q_t_comes q_t_wants q_t_runs q_t_readKind q_t_readComes q_t_readWants q_t_queueNow q_t_servedAt q_t_comesWas q_t_readingOf q_t_readingAt q_t_sheetSize q_t_sheetLane q_t_sheet q_t_hands 0 t_persons t_law t_bellSet t_readAt t_readLaw t_readMany t_queueMany t_servedNow t_doneAt t_readings t_whichMany t_whichOne t_whichTwo t_traceNow) := hD
  refine lv_iload_n hx hb dX9_refused_5 rfl (lv_at hl 1 rfl) ?_
  have hM := (Option.some.inj hM)
  subst hM
  exact rt_i hx hb hr hlocks hP hD hS dX9_refused_6
/-! ===== TurnQueueModel.failed ===== -/
abbrev w_Mo_failed (cI cJ cS : ClassId) (q_t : Nat) (q_t_kindOf : Nat) (q_t_comes : Nat) (q_t_wants : Nat) (q_t_runs : Nat) (q_t_readKind : Nat) (q_t_readComes : Nat) (q_t_readWants : Nat) (q_t_queueNow : Nat) (q_t_servedAt : Nat) (q_t_comesWas : Nat) (q_t_readingOf : Nat) (q_t_readingAt : Nat) (q_t_sheetSize : Nat) (q_t_sheetLane : Nat) (q_t_sheet : Nat) (q_t_hands : Nat) (t_fault : Int32) (t_persons : Int32) (t_law : Int32) (t_bellSet : Int64) (t_readAt : Int32) (t_readLaw : Int32) (t_readMany : Int32) (t_queueMany : Int32) (t_servedNow : Int32) (t_doneAt : Int32) (t_readings : Int32) (t_whichMany : Int32) (t_whichOne : Int32) (t_whichTwo : Int32) (t_traceNow : Int32) : va_W := [(q_t, .inr (8, [.int t_fault, .int t_persons, .int t_law, .ref q_t_kindOf, .ref q_t_comes, .ref q_t_wants, .ref q_t_runs, .long t_bellSet, .int t_readAt, .int t_readLaw, .int t_readMany, .ref q_t_readKind, .ref q_t_readComes, .ref q_t_readWants, .ref q_t_queueNow, .int t_queueMany, .int t_servedNow, .int t_doneAt, .ref q_t_servedAt, .ref q_t_comesWas, .int t_readings, .ref q_t_readingOf, .ref q_t_readingAt, .int t_whichMany, .int t_whichOne, .int t_whichTwo, .ref q_t_sheetSize, .ref q_t_sheetLane, .ref q_t_sheet, .ref q_t_hands, .int t_traceNow]))]
abbrev rm_Mo_failed : Room := { frames := 0, cells := 0, slots := 0, locals := 0 }
noncomputable def Mo_failed (p_f : Int32) (t_fault : Int32) : Option (Int32 × Int32) :=
  some ((-10) - p_f, p_f)
set_option maxRecDepth 100000 in
set_option maxHeartbeats 4000000 in
theorem c_Mo_failed (l : Launch) (D : va_G) (cI cJ cS : ClassId) (q_t q_t_kindOf q_t_comes q_t_wants q_t_runs q_t_readKind q_t_readComes q_t_readWants q_t_queueNow q_t_servedAt q_t_comesWas q_t_readingOf q_t_readingAt q_t_sheetSize q_t_sheetLane q_t_sheet q_t_hands : Nat) (t_fault : Int32) (t_persons : Int32) (t_law : Int32) (t_bellSet : Int64) (t_readAt : Int32) (t_readLaw : Int32) (t_readMany : Int32) (t_queueMany : Int32) (t_servedNow : Int32) (t_doneAt : Int32) (t_readings : Int32) (t_whichMany : Int32) (t_whichOne : Int32) (t_whichTwo : Int32) (t_traceNow : Int32) (p_f : Int32) (o : Int32 × Int32) (hM : Mo_failed p_f t_fault = some o) : Ci l yX9_failed wsX9_failed rm_Mo_failed D cI cJ cS [.ref q_t, .int p_f] (w_Mo_failed cI cJ cS q_t q_t_kindOf q_t_comes q_t_wants q_t_runs q_t_readKind q_t_readComes q_t_readWants q_t_queueNow q_t_servedAt q_t_comesWas q_t_readingOf q_t_readingAt q_t_sheetSize q_t_sheetLane q_t_sheet q_t_hands t_fault t_persons t_law t_bellSet t_readAt t_readLaw t_readMany t_queueMany t_servedNow t_doneAt t_readings t_whichMany t_whichOne t_whichTwo t_traceNow) (w_Mo_failed cI cJ cS q_t q_t_kindOf q_t_comes q_t_wants q_t_runs q_t_readKind q_t_readComes q_t_readWants q_t_queueNow q_t_servedAt q_t_comesWas q_t_readingOf q_t_readingAt q_t_sheetSize q_t_sheetLane q_t_sheet q_t_hands o.2 t_persons t_law t_bellSet t_readAt t_readLaw t_readMany t_queueMany t_servedNow t_doneAt t_readings t_whichMany t_whichOne t_whichTwo t_traceNow) o.1 := by
  refine Ci.of (cc := cX9_failed) (maxL := 2) (ret := (some .int)) (by decide) rfl (Nat.le_of_ble_eq_true rfl) ?_
  intro p e s m args below meth c A ls hE
  obtain ⟨hx, hb, hr, hml, hown, hts, hlocks, hK, hA, hP, hD, hS, hl⟩ := hE
  have hown : s.vm.findClass RX9 = some m.cls := hown
  have hl : lv_has ls 2 [(0, .ref q_t), (1, .int p_f)] := hl
  have iX9 : ∀ w ∈ u_ws RX9 TX9 31, w ∈ wsX9_failed := by decide +kernel
  have k0 := hts (.fieldLink RX9 60 "TurnQueueModel" "fault" "I") (by decide +kernel)
  unfold Mo_failed at hM
  refine lv_aload_n hx hb dX9_failed_0 rfl (lv_at hl 0 rfl) ?_
  refine lv_iload_n hx hb dX9_failed_1 rfl (lv_at hl 1 rfl) ?_
  refine va_put (ci := 8) (v := .int p_f) (ty := .int) (C := RX9) (T := TX9) (N := 31) hx hb hts iX9 tyX9 tyX9_ok nmX9 hown hK.1 hP hD hS 0 rfl rfl 0 (Nat.le_of_ble_eq_true rfl) k0 (fun _ h9 => h9) rfl (tyX9_ok 0 (Nat.le_of_ble_eq_true rfl)) rfl rfl (Nat.le_of_ble_eq_true rfl) dX9_failed_2 (fun H locs hP hD hS => ?_)
  have hP : va_P D vwCl (w_Mo_failed cI cJ cS q_t q_t_kindOf q_t_comes q_t_wants q_t_runs q_t_readKind q_t_readComes q_t_readWants q_t_queueNow q_t_servedAt q_t_comesWas q_t_readingOf q_t_readingAt q_t_sheetSize q_t_sheetLane q_t_sheet q_t_hands p_f t_persons t_law t_bellSet t_readAt t_readLaw t_readMany t_queueMany t_servedNow t_doneAt t_readings t_whichMany t_whichOne t_whichTwo t_traceNow) H := hP
  have hD : va_D A (w_Mo_failed cI cJ cS q_t q_t_kindOf q_t_comes q_t_wants q_t_runs q_t_readKind q_t_readComes q_t_readWants q_t_queueNow q_t_servedAt q_t_comesWas q_t_readingOf q_t_readingAt q_t_sheetSize q_t_sheetLane q_t_sheet q_t_hands p_f t_persons t_law t_bellSet t_readAt t_readLaw t_readMany t_queueMany t_servedNow t_doneAt t_readings t_whichMany t_whichOne t_whichTwo t_traceNow) := hD
  refine lv_bipush (v := (-10)) hx hb dX9_failed_5 (by decide) ?_
  refine lv_iload_n hx hb dX9_failed_7 rfl (lv_at hl 1 rfl) ?_
  refine lv_isub hx hb dX9_failed_8 ?_
  have hM := (Option.some.inj hM)
  subst hM
  exact rt_i hx hb hr hlocks hP hD hS dX9_failed_9
/-! ===== TurnQueueModel.failedLong ===== -/
abbrev w_Mo_failedLong (cI cJ cS : ClassId) (q_t : Nat) (q_t_kindOf : Nat) (q_t_comes : Nat) (q_t_wants : Nat) (q_t_runs : Nat) (q_t_readKind : Nat) (q_t_readComes : Nat) (q_t_readWants : Nat) (q_t_queueNow : Nat) (q_t_servedAt : Nat) (q_t_comesWas : Nat) (q_t_readingOf : Nat) (q_t_readingAt : Nat) (q_t_sheetSize : Nat) (q_t_sheetLane : Nat) (q_t_sheet : Nat) (q_t_hands : Nat) (t_fault : Int32) (t_persons : Int32) (t_law : Int32) (t_bellSet : Int64) (t_readAt : Int32) (t_readLaw : Int32) (t_readMany : Int32) (t_queueMany : Int32) (t_servedNow : Int32) (t_doneAt : Int32) (t_readings : Int32) (t_whichMany : Int32) (t_whichOne : Int32) (t_whichTwo : Int32) (t_traceNow : Int32) : va_W := [(q_t, .inr (8, [.int t_fault, .int t_persons, .int t_law, .ref q_t_kindOf, .ref q_t_comes, .ref q_t_wants, .ref q_t_runs, .long t_bellSet, .int t_readAt, .int t_readLaw, .int t_readMany, .ref q_t_readKind, .ref q_t_readComes, .ref q_t_readWants, .ref q_t_queueNow, .int t_queueMany, .int t_servedNow, .int t_doneAt, .ref q_t_servedAt, .ref q_t_comesWas, .int t_readings, .ref q_t_readingOf, .ref q_t_readingAt, .int t_whichMany, .int t_whichOne, .int t_whichTwo, .ref q_t_sheetSize, .ref q_t_sheetLane, .ref q_t_sheet, .ref q_t_hands, .int t_traceNow]))]
abbrev rm_Mo_failedLong : Room := { frames := 1, cells := 0, slots := 0, locals := 19 }
noncomputable def Mo_failedLong (p_f : Int32) (t_fault : Int32) : Option (Int64 × Int32) :=
  (Mo_lost).bind fun y1 =>
  some (y1, p_f)
set_option maxRecDepth 100000 in
set_option maxHeartbeats 4000000 in
theorem c_Mo_failedLong (l : Launch) (D : va_G) (cI cJ cS : ClassId) (q_t q_t_kindOf q_t_comes q_t_wants q_t_runs q_t_readKind q_t_readComes q_t_readWants q_t_queueNow q_t_servedAt q_t_comesWas q_t_readingOf q_t_readingAt q_t_sheetSize q_t_sheetLane q_t_sheet q_t_hands : Nat) (t_fault : Int32) (t_persons : Int32) (t_law : Int32) (t_bellSet : Int64) (t_readAt : Int32) (t_readLaw : Int32) (t_readMany : Int32) (t_queueMany : Int32) (t_servedNow : Int32) (t_doneAt : Int32) (t_readings : Int32) (t_whichMany : Int32) (t_whichOne : Int32) (t_whichTwo : Int32) (t_traceNow : Int32) (p_f : Int32) (o : Int64 × Int32) (hM : Mo_failedLong p_f t_fault = some o) : Cl l yX9_failedLong wsX9_failedLong rm_Mo_failedLong D cI cJ cS [.ref q_t, .int p_f] (w_Mo_failedLong cI cJ cS q_t q_t_kindOf q_t_comes q_t_wants q_t_runs q_t_readKind q_t_readComes q_t_readWants q_t_queueNow q_t_servedAt q_t_comesWas q_t_readingOf q_t_readingAt q_t_sheetSize q_t_sheetLane q_t_sheet q_t_hands t_fault t_persons t_law t_bellSet t_readAt t_readLaw t_readMany t_queueMany t_servedNow t_doneAt t_readings t_whichMany t_whichOne t_whichTwo t_traceNow) (w_Mo_failedLong cI cJ cS q_t q_t_kindOf q_t_comes q_t_wants q_t_runs q_t_readKind q_t_readComes q_t_readWants q_t_queueNow q_t_servedAt q_t_comesWas q_t_readingOf q_t_readingAt q_t_sheetSize q_t_sheetLane q_t_sheet q_t_hands o.2 t_persons t_law t_bellSet t_readAt t_readLaw t_readMany t_queueMany t_servedNow t_doneAt t_readings t_whichMany t_whichOne t_whichTwo t_traceNow) o.1 := by
  refine Cl.of (cc := cX9_failedLong) (maxL := 2) (ret := (some .long)) (by decide) rfl (Nat.le_of_ble_eq_true rfl) ?_
  intro p e s m args below meth c A ls hE
  obtain ⟨hx, hb, hr, hml, hown, hts, hlocks, hK, hA, hP, hD, hS, hl⟩ := hE
  have hown : s.vm.findClass RX9 = some m.cls := hown
  have hl : lv_has ls 2 [(0, .ref q_t), (1, .int p_f)] := hl
  have iX9 : ∀ w ∈ u_ws RX9 TX9 31, w ∈ wsX9_failedLong := by decide +kernel
  have k0 := hts (.fieldLink RX9 60 "TurnQueueModel" "fault" "I") (by decide +kernel)
  unfold Mo_failedLong at hM
  refine lv_aload_n hx hb dX9_failedLong_0 rfl (lv_at hl 0 rfl) ?_
  refine lv_iload_n hx hb dX9_failedLong_1 rfl (lv_at hl 1 rfl) ?_
  refine va_put (ci := 8) (v := .int p_f) (ty := .int) (C := RX9) (T := TX9) (N := 31) hx hb hts iX9 tyX9 tyX9_ok nmX9 hown hK.1 hP hD hS 0 rfl rfl 0 (Nat.le_of_ble_eq_true rfl) k0 (fun _ h9 => h9) rfl (tyX9_ok 0 (Nat.le_of_ble_eq_true rfl)) rfl rfl (Nat.le_of_ble_eq_true rfl) dX9_failedLong_2 (fun H locs hP hD hS => ?_)
  have hP : va_P D vwCl (w_Mo_failedLong cI cJ cS q_t q_t_kindOf q_t_comes q_t_wants q_t_runs q_t_readKind q_t_readComes q_t_readWants q_t_queueNow q_t_servedAt q_t_comesWas q_t_readingOf q_t_readingAt q_t_sheetSize q_t_sheetLane q_t_sheet q_t_hands p_f t_persons t_law t_bellSet t_readAt t_readLaw t_readMany t_queueMany t_servedNow t_doneAt t_readings t_whichMany t_whichOne t_whichTwo t_traceNow) H := hP
  have hD : va_D A (w_Mo_failedLong cI cJ cS q_t q_t_kindOf q_t_comes q_t_wants q_t_runs q_t_readKind q_t_readComes q_t_readWants q_t_queueNow q_t_servedAt q_t_comesWas q_t_readingOf q_t_readingAt q_t_sheetSize q_t_sheetLane q_t_sheet q_t_hands p_f t_persons t_law t_bellSet t_readAt t_readLaw t_readMany t_queueMany t_servedNow t_doneAt t_readings t_whichMany t_whichOne t_whichTwo t_traceNow) := hD
  obtain ⟨y1, h2, hM⟩ := o_bd hM
  refine af_l (ws2 := (w_Mo_failedLong cI cJ cS q_t q_t_kindOf q_t_comes q_t_wants q_t_runs q_t_readKind q_t_readComes q_t_readWants q_t_queueNow q_t_servedAt q_t_comesWas q_t_readingOf q_t_readingAt q_t_sheetSize q_t_sheetLane q_t_sheet q_t_hands p_f t_persons t_law t_bellSet t_readAt t_readLaw t_readMany t_queueMany t_servedNow t_doneAt t_readings t_whichMany t_whichOne t_whichTwo t_traceNow)) (va_runS (As := []) (rest := []) ⟨hx, hb, hml, hown, hts⟩ (c_Mo_lost l D cI cJ cS y1 h2 _) (va_cwS 0 hts gX9_failedLong_X9_lost rfl rfl rfl (by decide +kernel) ⟨(Nat.le_of_ble_eq_true rfl), (Nat.le_of_ble_eq_true rfl)⟩) (pre_S hK hP hD [] rfl rfl) rfl rfl hl.1 rfl (lv_room (Nat.le_of_ble_eq_true rfl)) dX9_failedLong_5 ⟨Nat.zero_le _, Nat.zero_le _⟩) hP hD hS hA [] [0] [0] rfl rfl rfl (by decide) rfl rfl (fun H locs hP hD hS => ?_)
  have hM := (Option.some.inj hM)
  subst hM
  exact rt_l hx hb hr hlocks hP hD hS dX9_failedLong_8
/-! ===== TurnQueueModel.noPerson ===== -/
abbrev w_Mo_noPerson (cI cJ cS : ClassId) (q_t : Nat) (q_t_kindOf : Nat) (q_t_comes : Nat) (q_t_wants : Nat) (q_t_runs : Nat) (q_t_readKind : Nat) (q_t_readComes : Nat) (q_t_readWants : Nat) (q_t_queueNow : Nat) (q_t_servedAt : Nat) (q_t_comesWas : Nat) (q_t_readingOf : Nat) (q_t_readingAt : Nat) (q_t_sheetSize : Nat) (q_t_sheetLane : Nat) (q_t_sheet : Nat) (q_t_hands : Nat) (t_fault : Int32) (t_persons : Int32) (t_law : Int32) (t_bellSet : Int64) (t_readAt : Int32) (t_readLaw : Int32) (t_readMany : Int32) (t_queueMany : Int32) (t_servedNow : Int32) (t_doneAt : Int32) (t_readings : Int32) (t_whichMany : Int32) (t_whichOne : Int32) (t_whichTwo : Int32) (t_traceNow : Int32) : va_W := [(q_t, .inr (8, [.int t_fault, .int t_persons, .int t_law, .ref q_t_kindOf, .ref q_t_comes, .ref q_t_wants, .ref q_t_runs, .long t_bellSet, .int t_readAt, .int t_readLaw, .int t_readMany, .ref q_t_readKind, .ref q_t_readComes, .ref q_t_readWants, .ref q_t_queueNow, .int t_queueMany, .int t_servedNow, .int t_doneAt, .ref q_t_servedAt, .ref q_t_comesWas, .int t_readings, .ref q_t_readingOf, .ref q_t_readingAt, .int t_whichMany, .int t_whichOne, .int t_whichTwo, .ref q_t_sheetSize, .ref q_t_sheetLane, .ref q_t_sheet, .ref q_t_hands, .int t_traceNow]))]
abbrev rm_Mo_noPerson : Room := { frames := 1, cells := 0, slots := 0, locals := 25 }
noncomputable def Mo_noPerson (p_p : Int32) (t_persons : Int32) : Option (Int32) :=
  (Mo_in p_p.toInt64 0 (t_persons.toInt64 - 1)).bind fun y1 =>
  if y1 = 0 then
    some 1
  else
    some 0
set_option maxRecDepth 100000 in
set_option maxHeartbeats 4000000 in
theorem c_Mo_noPerson (l : Launch) (D : va_G) (cI cJ cS : ClassId) (q_t q_t_kindOf q_t_comes q_t_wants q_t_runs q_t_readKind q_t_readComes q_t_readWants q_t_queueNow q_t_servedAt q_t_comesWas q_t_readingOf q_t_readingAt q_t_sheetSize q_t_sheetLane q_t_sheet q_t_hands : Nat) (t_fault : Int32) (t_persons : Int32) (t_law : Int32) (t_bellSet : Int64) (t_readAt : Int32) (t_readLaw : Int32) (t_readMany : Int32) (t_queueMany : Int32) (t_servedNow : Int32) (t_doneAt : Int32) (t_readings : Int32) (t_whichMany : Int32) (t_whichOne : Int32) (t_whichTwo : Int32) (t_traceNow : Int32) (p_p : Int32) (o : Int32) (hM : Mo_noPerson p_p t_persons = some o) : Ci l yX9_noPerson wsX9_noPerson rm_Mo_noPerson D cI cJ cS [.ref q_t, .int p_p] (w_Mo_noPerson cI cJ cS q_t q_t_kindOf q_t_comes q_t_wants q_t_runs q_t_readKind q_t_readComes q_t_readWants q_t_queueNow q_t_servedAt q_t_comesWas q_t_readingOf q_t_readingAt q_t_sheetSize q_t_sheetLane q_t_sheet q_t_hands t_fault t_persons t_law t_bellSet t_readAt t_readLaw t_readMany t_queueMany t_servedNow t_doneAt t_readings t_whichMany t_whichOne t_whichTwo t_traceNow) (w_Mo_noPerson cI cJ cS q_t q_t_kindOf q_t_comes q_t_wants q_t_runs q_t_readKind q_t_readComes q_t_readWants q_t_queueNow q_t_servedAt q_t_comesWas q_t_readingOf q_t_readingAt q_t_sheetSize q_t_sheetLane q_t_sheet q_t_hands t_fault t_persons t_law t_bellSet t_readAt t_readLaw t_readMany t_queueMany t_servedNow t_doneAt t_readings t_whichMany t_whichOne t_whichTwo t_traceNow) o := by
  refine Ci.of (cc := cX9_noPerson) (maxL := 2) (ret := (some .boolean)) (by decide) rfl (Nat.le_of_ble_eq_true rfl) ?_
  intro p e s m args below meth c A ls hE
  obtain ⟨hx, hb, hr, hml, hown, hts, hlocks, hK, hA, hP, hD, hS, hl⟩ := hE
  have hown : s.vm.findClass RX9 = some m.cls := hown
  have hl : lv_has ls 2 [(0, .ref q_t), (1, .int p_p)] := hl
  have iX9 : ∀ w ∈ u_ws RX9 TX9 31, w ∈ wsX9_noPerson := by decide +kernel
  have k0 := hts (.fieldLink RX9 68 "TurnQueueModel" "persons" "I") (by decide +kernel)
  unfold Mo_noPerson at hM
  refine lv_iload_n hx hb dX9_noPerson_0 rfl (lv_at hl 1 rfl) ?_
  refine lv_i2l (v := p_p.toInt64) hx hb dX9_noPerson_1 rfl ?_
  refine lv_lconst (v := 0) hx hb dX9_noPerson_2 (by decide) ?_
  refine lv_aload_n hx hb dX9_noPerson_3 rfl (lv_at hl 0 rfl) ?_
  refine va_get (ci := 8) (v := .int t_persons) (C := RX9) (T := TX9) (N := 31) hx hb hts iX9 hown hK.1 hP 0 rfl rfl 1 (Nat.le_of_ble_eq_true rfl) k0 (fun _ h9 => h9) rfl dX9_noPerson_4 ?_
  refine lv_i2l (v := t_persons.toInt64) hx hb dX9_noPerson_7 rfl ?_
  refine lv_lconst (v := 1) hx hb dX9_noPerson_8 (by decide) ?_
  refine lv_lsub hx hb dX9_noPerson_9 ?_
  obtain ⟨y1, h2, hM⟩ := o_bd hM
  refine af_i (ws2 := (w_Mo_noPerson cI cJ cS q_t q_t_kindOf q_t_comes q_t_wants q_t_runs q_t_readKind q_t_readComes q_t_readWants q_t_queueNow q_t_servedAt q_t_comesWas q_t_readingOf q_t_readingAt q_t_sheetSize q_t_sheetLane q_t_sheet q_t_hands t_fault t_persons t_law t_bellSet t_readAt t_readLaw t_readMany t_queueMany t_servedNow t_doneAt t_readings t_whichMany t_whichOne t_whichTwo t_traceNow)) (va_runS (As := [.long p_p.toInt64, .long 0, .long (t_persons.toInt64 - 1)]) (rest := []) ⟨hx, hb, hml, hown, hts⟩ (c_Mo_in l D cI cJ cS p_p.toInt64 0 (t_persons.toInt64 - 1) y1 h2 _) (va_cwS 3 hts gX9_noPerson_X9_in rfl rfl rfl (by decide +kernel) ⟨(Nat.le_of_ble_eq_true rfl), (Nat.le_of_ble_eq_true rfl)⟩) (pre_S hK hP hD [] rfl rfl) rfl rfl hl.1 rfl (lv_room (Nat.le_of_ble_eq_true rfl)) dX9_noPerson_10 ⟨Nat.zero_le _, Nat.zero_le _⟩) hP hD hS hA [] [0] [0] rfl rfl rfl (by decide) rfl rfl (fun H locs hP hD hS => ?_)
  refine lv_if_ne (tgt := 20) hx hb dX9_noPerson_13 (by decide) (fun c3 => ?_) (fun c3 => ?_)
  · have hM := (o_if hM).2 c3
    refine lv_iconst (v := 0) hx hb dX9_noPerson_20 (by decide) ?_
    have hM := (Option.some.inj hM)
    subst hM
    exact rt_z hx hb hr hlocks hP hD hS (show narrow .boolean (.int 0) = .int 0 from rfl) dX9_noPerson_21
  · have hM := (o_if hM).1 c3
    refine lv_iconst (v := 1) hx hb dX9_noPerson_16 (by decide) ?_
    refine lv_goto (tgt := 21) hx hb dX9_noPerson_17 (by decide) ?_
    have hM := (Option.some.inj hM)
    subst hM
    exact rt_z hx hb hr hlocks hP hD hS (show narrow .boolean (.int 1) = .int 1 from rfl) dX9_noPerson_21
/-! ===== TurnQueueModel.isMinute ===== -/
abbrev w_Mo_isMinute (cI cJ cS : ClassId) : va_W := []
abbrev rm_Mo_isMinute : Room := { frames := 1, cells := 0, slots := 0, locals := 25 }
noncomputable def Mo_isMinute (p_minute : Int32) : Option (Int32) :=
  (Mo_in p_minute.toInt64 0 59).bind fun y1 =>
  if y1 &&& 1 = y1 then
    some y1
  else none
set_option maxRecDepth 100000 in
set_option maxHeartbeats 4000000 in
theorem c_Mo_isMinute (l : Launch) (D : va_G) (cI cJ cS : ClassId) (p_minute : Int32) (o : Int32) (hM : Mo_isMinute p_minute = some o) : Ci l yX9_isMinute wsX9_isMinute rm_Mo_isMinute D cI cJ cS [.int p_minute] (w_Mo_isMinute cI cJ cS) (w_Mo_isMinute cI cJ cS) o := by
  refine Ci.of (cc := cX9_isMinute) (maxL := 1) (ret := (some .boolean)) (by decide) rfl (Nat.le_of_ble_eq_true rfl) ?_
  intro p e s m args below meth c A ls hE
  obtain ⟨hx, hb, hr, hml, hown, hts, hlocks, hK, hA, hP, hD, hS, hl⟩ := hE
  have hown : s.vm.findClass RX9 = some m.cls := hown
  have hl : lv_has ls 1 [(0, .int p_minute)] := hl
  have k0 := hts (.constantLong RX9 75 (59)) (by decide +kernel)
  unfold Mo_isMinute at hM
  refine lv_iload_n hx hb dX9_isMinute_0 rfl (lv_at hl 0 rfl) ?_
  refine lv_i2l (v := p_minute.toInt64) hx hb dX9_isMinute_1 rfl ?_
  refine lv_lconst (v := 0) hx hb dX9_isMinute_2 (by decide) ?_
  refine lv_ldc2 (v := 59) hx hb hown k0 dX9_isMinute_3 ?_
  obtain ⟨y1, h2, hM⟩ := o_bd hM
  refine af_i (ws2 := (w_Mo_isMinute cI cJ cS)) (va_runS (As := [.long p_minute.toInt64, .long 0, .long 59]) (rest := []) ⟨hx, hb, hml, hown, hts⟩ (c_Mo_in l D cI cJ cS p_minute.toInt64 0 59 y1 h2 _) (va_cwS 3 hts gX9_isMinute_X9_in rfl rfl rfl (by decide +kernel) ⟨(Nat.le_of_ble_eq_true rfl), (Nat.le_of_ble_eq_true rfl)⟩) (pre_S hK hP hD [] rfl rfl) rfl rfl hl.1 rfl (lv_room (Nat.le_of_ble_eq_true rfl)) dX9_isMinute_6 ⟨Nat.zero_le _, Nat.zero_le _⟩) hP hD hS hA [] [] [] rfl rfl rfl (by decide) rfl rfl (fun H locs hP hD hS => ?_)
  obtain ⟨h3, hM⟩ := o_gd hM
  have hM := (Option.some.inj hM)
  subst hM
  exact rt_z hx hb hr hlocks hP hD hS (nz h3) dX9_isMinute_9
/-! ===== TurnQueueModel.codeAt ===== -/
abbrev w_Mo_codeAt (cI cJ cS : ClassId) (q_t : Nat) (q_t_kindOf : Nat) (q_t_comes : Nat) (q_t_wants : Nat) (q_t_runs : Nat) (q_t_readKind : Nat) (q_t_readComes : Nat) (q_t_readWants : Nat) (q_t_queueNow : Nat) (q_t_servedAt : Nat) (q_t_comesWas : Nat) (q_t_readingOf : Nat) (q_t_readingAt : Nat) (q_t_sheetSize : Nat) (q_t_sheetLane : Nat) (q_t_sheet : Nat) (q_t_hands : Nat) (t_fault : Int32) (t_persons : Int32) (t_law : Int32) (t_bellSet : Int64) (t_readAt : Int32) (t_readLaw : Int32) (t_readMany : Int32) (t_queueMany : Int32) (t_servedNow : Int32) (t_doneAt : Int32) (t_readings : Int32) (t_whichMany : Int32) (t_whichOne : Int32) (t_whichTwo : Int32) (t_traceNow : Int32) (t_sheet : Nat → Int32) : va_W := [(q_t, .inr (8, [.int t_fault, .int t_persons, .int t_law, .ref q_t_kindOf, .ref q_t_comes, .ref q_t_wants, .ref q_t_runs, .long t_bellSet, .int t_readAt, .int t_readLaw, .int t_readMany, .ref q_t_readKind, .ref q_t_readComes, .ref q_t_readWants, .ref q_t_queueNow, .int t_queueMany, .int t_servedNow, .int t_doneAt, .ref q_t_servedAt, .ref q_t_comesWas, .int t_readings, .ref q_t_readingOf, .ref q_t_readingAt, .int t_whichMany, .int t_whichOne, .int t_whichTwo, .ref q_t_sheetSize, .ref q_t_sheetLane, .ref q_t_sheet, .ref q_t_hands, .int t_traceNow])), (q_t_sheet, ar cI 240 t_sheet)]
abbrev rm_Mo_codeAt : Room := { frames := 0, cells := 0, slots := 0, locals := 0 }
noncomputable def Mo_codeAt (p_from : Int32) (p_n : Int32) (t_readAt : Int32) (t_sheet : Nat → Int32) : Option (Int32) :=
  if p_n ≤ t_readAt then
    some (-9)
  else
    if ck (p_from + t_readAt) 240 = true then
      some (t_sheet (p_from + t_readAt).toNatClampNeg)
    else none
set_option maxRecDepth 100000 in
set_option maxHeartbeats 4000000 in
theorem c_Mo_codeAt (l : Launch) (D : va_G) (cI cJ cS : ClassId) (q_t q_t_kindOf q_t_comes q_t_wants q_t_runs q_t_readKind q_t_readComes q_t_readWants q_t_queueNow q_t_servedAt q_t_comesWas q_t_readingOf q_t_readingAt q_t_sheetSize q_t_sheetLane q_t_sheet q_t_hands : Nat) (t_fault : Int32) (t_persons : Int32) (t_law : Int32) (t_bellSet : Int64) (t_readAt : Int32) (t_readLaw : Int32) (t_readMany : Int32) (t_queueMany : Int32) (t_servedNow : Int32) (t_doneAt : Int32) (t_readings : Int32) (t_whichMany : Int32) (t_whichOne : Int32) (t_whichTwo : Int32) (t_traceNow : Int32) (t_sheet : Nat → Int32) (p_from : Int32) (p_n : Int32) (o : Int32) (hM : Mo_codeAt p_from p_n t_readAt t_sheet = some o) : Ci l yX9_codeAt wsX9_codeAt rm_Mo_codeAt D cI cJ cS [.ref q_t, .int p_from, .int p_n] (w_Mo_codeAt cI cJ cS q_t q_t_kindOf q_t_comes q_t_wants q_t_runs q_t_readKind q_t_readComes q_t_readWants q_t_queueNow q_t_servedAt q_t_comesWas q_t_readingOf q_t_readingAt q_t_sheetSize q_t_sheetLane q_t_sheet q_t_hands t_fault t_persons t_law t_bellSet t_readAt t_readLaw t_readMany t_queueMany t_servedNow t_doneAt t_readings t_whichMany t_whichOne t_whichTwo t_traceNow t_sheet) (w_Mo_codeAt cI cJ cS q_t q_t_kindOf q_t_comes q_t_wants q_t_runs q_t_readKind q_t_readComes q_t_readWants q_t_queueNow q_t_servedAt q_t_comesWas q_t_readingOf q_t_readingAt q_t_sheetSize q_t_sheetLane q_t_sheet q_t_hands t_fault t_persons t_law t_bellSet t_readAt t_readLaw t_readMany t_queueMany t_servedNow t_doneAt t_readings t_whichMany t_whichOne t_whichTwo t_traceNow t_sheet) o := by
  refine Ci.of (cc := cX9_codeAt) (maxL := 3) (ret := (some .int)) (by decide) rfl (Nat.le_of_ble_eq_true rfl) ?_
  intro p e s m args below meth c A ls hE
  obtain ⟨hx, hb, hr, hml, hown, hts, hlocks, hK, hA, hP, hD, hS, hl⟩ := hE
  have hown : s.vm.findClass RX9 = some m.cls := hown
  have hl : lv_has ls 3 [(0, .ref q_t), (1, .int p_from), (2, .int p_n)] := hl
  have iX9 : ∀ w ∈ u_ws RX9 TX9 31, w ∈ wsX9_codeAt := by decide +kernel
  have k0 := hts (.fieldLink RX9 77 "TurnQueueModel" "readAt" "I") (by decide +kernel)
  have k1 := hts (.fieldLink RX9 52 "TurnQueueModel" "sheet" "[I") (by decide +kernel)
  unfold Mo_codeAt at hM
  refine lv_aload_n hx hb dX9_codeAt_0 rfl (lv_at hl 0 rfl) ?_
  refine va_get (ci := 8) (v := .int t_readAt) (C := RX9) (T := TX9) (N := 31) hx hb hts iX9 hown hK.1 hP 0 rfl rfl 8 (Nat.le_of_ble_eq_true rfl) k0 (fun _ h9 => h9) rfl dX9_codeAt_1 ?_
  refine lv_iload_n hx hb dX9_codeAt_4 rfl (lv_at hl 2 rfl) ?_
  refine lv_icmp_ge (tgt := 22) hx hb dX9_codeAt_5 (by decide) (fun c1 => ?_) (fun c1 => ?_)
  · have hM := (o_if hM).1 c1
    refine lv_bipush (v := (-9)) hx hb dX9_codeAt_22 (by decide) ?_
    have hM := (Option.some.inj hM)
    subst hM
    exact rt_i hx hb hr hlocks hP hD hS dX9_codeAt_24
  · have hM := (o_if hM).2 c1
    refine lv_aload_n hx hb dX9_codeAt_8 rfl (lv_at hl 0 rfl) ?_
    refine va_get (ci := 8) (v := .ref q_t_sheet) (C := RX9) (T := TX9) (N := 31) hx hb hts iX9 hown hK.1 hP 0 rfl rfl 28 (Nat.le_of_ble_eq_true rfl) k1 (fun _ h9 => h9) rfl dX9_codeAt_9 ?_
    refine lv_iload_n hx hb dX9_codeAt_12 rfl (lv_at hl 1 rfl) ?_
    refine lv_aload_n hx hb dX9_codeAt_13 rfl (lv_at hl 0 rfl) ?_
    refine va_get (ci := 8) (v := .int t_readAt) (C := RX9) (T := TX9) (N := 31) hx hb hts iX9 hown hK.1 hP 0 rfl rfl 8 (Nat.le_of_ble_eq_true rfl) k0 (fun _ h9 => h9) rfl dX9_codeAt_14 ?_
    refine lv_iadd hx hb dX9_codeAt_17 ?_
    obtain ⟨h2, hM⟩ := o_ck hM
    refine va_iald hx hb hK.1 hP 1 0 rfl rfl h2 dX9_codeAt_18 ?_
    refine lv_goto (tgt := 24) hx hb dX9_codeAt_19 (by decide) ?_
    have hM := (Option.some.inj hM)
    subst hM
    exact rt_i hx hb hr hlocks hP hD hS dX9_codeAt_24
/-! ===== TurnQueueModel.figure ===== -/
abbrev w_Mo_figure (cI cJ cS : ClassId) (q_t : Nat) (q_t_kindOf : Nat) (q_t_comes : Nat) (q_t_wants : Nat) (q_t_runs : Nat) (q_t_readKind : Nat) (q_t_readComes : Nat) (q_t_readWants : Nat) (q_t_queueNow : Nat) (q_t_servedAt : Nat) (q_t_comesWas : Nat) (q_t_readingOf : Nat) (q_t_readingAt : Nat) (q_t_sheetSize : Nat) (q_t_sheetLane : Nat) (q_t_sheet : Nat) (q_t_hands : Nat) (t_fault : Int32) (t_persons : Int32) (t_law : Int32) (t_bellSet : Int64) (t_readAt : Int32) (t_readLaw : Int32) (t_readMany : Int32) (t_queueMany : Int32) (t_servedNow : Int32) (t_doneAt : Int32) (t_readings : Int32) (t_whichMany : Int32) (t_whichOne : Int32) (t_whichTwo : Int32) (t_traceNow : Int32) (t_sheet : Nat → Int32) : va_W := [(q_t, .inr (8, [.int t_fault, .int t_persons, .int t_law, .ref q_t_kindOf, .ref q_t_comes, .ref q_t_wants, .ref q_t_runs, .long t_bellSet, .int t_readAt, .int t_readLaw, .int t_readMany, .ref q_t_readKind, .ref q_t_readComes, .ref q_t_readWants, .ref q_t_queueNow, .int t_queueMany, .int t_servedNow, .int t_doneAt, .ref q_t_servedAt, .ref q_t_comesWas, .int t_readings, .ref q_t_readingOf, .ref q_t_readingAt, .int t_whichMany, .int t_whichOne, .int t_whichTwo, .ref q_t_sheetSize, .ref q_t_sheetLane, .ref q_t_sheet, .ref q_t_hands, .int t_traceNow])), (q_t_sheet, ar cI 240 t_sheet)]
abbrev rm_Mo_figure : Room := { frames := 1, cells := 0, slots := 0, locals := 25 }
noncomputable def Mo_figure_j39 (p_from : Int32) (p_n : Int32) (p_lowest : Int32) (p_most : Int32) (t_sheet : Nat → Int32) (x5 : Int32) (x6 : Int32) (s1 : Int32) (s2 : Int32) (t_readAt : Int32) : Option (Int32 × Int32) :=
  lt (s1 + s2) fun y7 =>
  if x6 = 0 then
    some ((-9), y7)
  else
    some (x5, y7)
noncomputable def Mo_figure (p_from : Int32) (p_n : Int32) (p_lowest : Int32) (p_most : Int32) (t_sheet : Nat → Int32) (t_readAt : Int32) : Option (Int32 × Int32) :=
  (Mo_codeAt p_from p_n t_readAt t_sheet).bind fun y1 =>
  lt (y1 - 48) fun y3 =>
  (Mo_in y3.toInt64 p_lowest.toInt64 p_most.toInt64).bind fun y4 =>
  if y4 = 0 then
    Mo_figure_j39 p_from p_n p_lowest p_most t_sheet y3 y4 t_readAt 0 t_readAt
  else
    Mo_figure_j39 p_from p_n p_lowest p_most t_sheet y3 y4 t_readAt 1 t_readAt
set_option maxRecDepth 100000 in
set_option maxHeartbeats 4000000 in
theorem c_Mo_figure (l : Launch) (D : va_G) (cI cJ cS : ClassId) (q_t q_t_kindOf q_t_comes q_t_wants q_t_runs q_t_readKind q_t_readComes q_t_readWants q_t_queueNow q_t_servedAt q_t_comesWas q_t_readingOf q_t_readingAt q_t_sheetSize q_t_sheetLane q_t_sheet q_t_hands : Nat) (t_fault : Int32) (t_persons : Int32) (t_law : Int32) (t_bellSet : Int64) (t_readAt : Int32) (t_readLaw : Int32) (t_readMany : Int32) (t_queueMany : Int32) (t_servedNow : Int32) (t_doneAt : Int32) (t_readings : Int32) (t_whichMany : Int32) (t_whichOne : Int32) (t_whichTwo : Int32) (t_traceNow : Int32) (t_sheet : Nat → Int32) (p_from : Int32) (p_n : Int32) (p_lowest : Int32) (p_most : Int32) (o : Int32 × Int32) (hM : Mo_figure p_from p_n p_lowest p_most t_sheet t_readAt = some o) : Ci l yX9_figure wsX9_figure rm_Mo_figure D cI cJ cS [.ref q_t, .int p_from, .int p_n, .int p_lowest, .int p_most] (w_Mo_figure cI cJ cS q_t q_t_kindOf q_t_comes q_t_wants q_t_runs q_t_readKind q_t_readComes q_t_readWants q_t_queueNow q_t_servedAt q_t_comesWas q_t_readingOf q_t_readingAt q_t_sheetSize q_t_sheetLane q_t_sheet q_t_hands t_fault t_persons t_law t_bellSet t_readAt t_readLaw t_readMany t_queueMany t_servedNow t_doneAt t_readings t_whichMany t_whichOne t_whichTwo t_traceNow t_sheet) (w_Mo_figure cI cJ cS q_t q_t_kindOf q_t_comes q_t_wants q_t_runs q_t_readKind q_t_readComes q_t_readWants q_t_queueNow q_t_servedAt q_t_comesWas q_t_readingOf q_t_readingAt q_t_sheetSize q_t_sheetLane q_t_sheet q_t_hands t_fault t_persons t_law t_bellSet o.2 t_readLaw t_readMany t_queueMany t_servedNow t_doneAt t_readings t_whichMany t_whichOne t_whichTwo t_traceNow t_sheet) o.1 := by
  refine Ci.of (cc := cX9_figure) (maxL := 7) (ret := (some .int)) (by decide) rfl (Nat.le_of_ble_eq_true rfl) ?_
  intro p e s m args below meth c A ls hE
  obtain ⟨hx, hb, hr, hml, hown, hts, hlocks, hK, hA, hP, hD, hS, hl⟩ := hE
  have hown : s.vm.findClass RX9 = some m.cls := hown
  have hl : lv_has ls 7 [(0, .ref q_t), (1, .int p_from), (2, .int p_n), (3, .int p_lowest), (4, .int p_most)] := hl
  have iX9 : ∀ w ∈ u_ws RX9 TX9 31, w ∈ wsX9_figure := by decide +kernel
  have k0 := hts (.fieldLink RX9 77 "TurnQueueModel" "readAt" "I") (by decide +kernel)
  have J39 : ∀ (x5 : Int32) (x6 : Int32) (s1 : Int32) (s2 : Int32) (t_readAt : Int32), Mo_figure_j39 p_from p_n p_lowest p_most t_sheet x5 x6 s1 s2 t_readAt = some o → ∀ (H : Heap) (locs : List Loc), va_P D vwCl (w_Mo_figure cI cJ cS q_t q_t_kindOf q_t_comes q_t_wants q_t_runs q_t_readKind q_t_readComes q_t_readWants q_t_queueNow q_t_servedAt q_t_comesWas q_t_readingOf q_t_readingAt q_t_sheetSize q_t_sheetLane q_t_sheet q_t_hands t_fault t_persons t_law t_bellSet t_readAt t_readLaw t_readMany t_queueMany t_servedNow t_doneAt t_readings t_whichMany t_whichOne t_whichTwo t_traceNow t_sheet) H → va_D A (w_Mo_figure cI cJ cS q_t q_t_kindOf q_t_comes q_t_wants q_t_runs q_t_readKind q_t_readComes q_t_readWants q_t_queueNow q_t_servedAt q_t_comesWas q_t_readingOf q_t_readingAt q_t_sheetSize q_t_sheetLane q_t_sheet q_t_hands t_fault t_persons t_law t_bellSet t_readAt t_readLaw t_readMany t_queueMany t_servedNow t_doneAt t_readings t_whichMany t_whichOne t_whichTwo t_traceNow t_sheet) → va_S A s.heap H locs → ∀ ls : Array Slot, lv_has ls 7 [(5, .int x5), (6, .int x6)] → W p l e (headSpec wsX9_figure rm_Mo_figure).room s m args below meth c H locs 0 0 (MQ below (CQi D (w_Mo_figure cI cJ cS q_t q_t_kindOf q_t_comes q_t_wants q_t_runs q_t_readKind q_t_readComes q_t_readWants q_t_queueNow q_t_servedAt q_t_comesWas q_t_readingOf q_t_readingAt q_t_sheetSize q_t_sheetLane q_t_sheet q_t_hands t_fault t_persons t_law t_bellSet o.2 t_readLaw t_readMany t_queueMany t_servedNow t_doneAt t_readings t_whichMany t_whichOne t_whichTwo t_traceNow t_sheet) A o.1) args s 0 0 A) (F0 m 39 ls [.int s2, .int s1, .ref q_t]) := by
    intro x5 x6 s1 s2 t_readAt hM H locs hP hD hS ls hl
    unfold Mo_figure_j39 at hM
    refine lv_iadd hx hb dX9_figure_39 ?_
    refine lv_topi (fun y7 ey7 => ?_)
    have hM := o_lt hM y7 ey7
    refine va_put (ci := 8) (v := .int y7) (ty := .int) (C := RX9) (T := TX9) (N := 31) hx hb hts iX9 tyX9 tyX9_ok nmX9 hown hK.1 hP hD hS 0 rfl rfl 8 (Nat.le_of_ble_eq_true rfl) k0 (fun _ h9 => h9) rfl (tyX9_ok 8 (Nat.le_of_ble_eq_true rfl)) rfl rfl (Nat.le_of_ble_eq_true rfl) dX9_figure_40 (fun H locs hP hD hS => ?_)
    have hP : va_P D vwCl (w_Mo_figure cI cJ cS q_t q_t_kindOf q_t_comes q_t_wants q_t_runs q_t_readKind q_t_readComes q_t_readWants q_t_queueNow q_t_servedAt q_t_comesWas q_t_readingOf q_t_readingAt q_t_sheetSize q_t_sheetLane q_t_sheet q_t_hands t_fault t_persons t_law t_bellSet y7 t_readLaw t_readMany t_queueMany t_servedNow t_doneAt t_readings t_whichMany t_whichOne t_whichTwo t_traceNow t_sheet) H := hP
    have hD : va_D A (w_Mo_figure cI cJ cS q_t q_t_kindOf q_t_comes q_t_wants q_t_runs q_t_readKind q_t_readComes q_t_readWants q_t_queueNow q_t_servedAt q_t_comesWas q_t_readingOf q_t_readingAt q_t_sheetSize q_t_sheetLane q_t_sheet q_t_hands t_fault t_persons t_law t_bellSet y7 t_readLaw t_readMany t_queueMany t_servedNow t_doneAt t_readings t_whichMany t_whichOne t_whichTwo t_traceNow t_sheet) := hD
    refine lv_iload hx hb dX9_figure_43 (lv_at hl 1 rfl) ?_
    refine lv_if_eq (tgt := 53) hx hb dX9_figure_45 (by decide) (fun c8 => ?_) (fun c8 => ?_)
    · have hM := (o_if hM).1 c8
      refine lv_bipush (v := (-9)) hx hb dX9_figure_53 (by decide) ?_
      have hM := (Option.some.inj hM)
      subst hM
      exact rt_i hx hb hr hlocks hP hD hS dX9_figure_55
    · have hM := (o_if hM).2 c8
      refine lv_iload hx hb dX9_figure_48 (lv_at hl 0 rfl) ?_
      refine lv_goto (tgt := 55) hx hb dX9_figure_50 (by decide) ?_
      have hM := (Option.some.inj hM)
      subst hM
      exact rt_i hx hb hr hlocks hP hD hS dX9_figure_55
  unfold Mo_figure at hM
  refine lv_aload_n hx hb dX9_figure_0 rfl (lv_at hl 0 rfl) ?_
  refine lv_iload_n hx hb dX9_figure_1 rfl (lv_at hl 1 rfl) ?_
  refine lv_iload_n hx hb dX9_figure_2 rfl (lv_at hl 2 rfl) ?_
  obtain ⟨y1, h2, hM⟩ := o_bd hM
  refine af_i (ws2 := (w_Mo_figure cI cJ cS q_t q_t_kindOf q_t_comes q_t_wants q_t_runs q_t_readKind q_t_readComes q_t_readWants q_t_queueNow q_t_servedAt q_t_comesWas q_t_readingOf q_t_readingAt q_t_sheetSize q_t_sheetLane q_t_sheet q_t_hands t_fault t_persons t_law t_bellSet t_readAt t_readLaw t_readMany t_queueMany t_servedNow t_doneAt t_readings t_whichMany t_whichOne t_whichTwo t_traceNow t_sheet)) (va_runV (As := [.int p_from, .int p_n]) (rest := []) ⟨hx, hb, hml, hown, hts⟩ (c_Mo_codeAt l D cI cJ cS q_t q_t_kindOf q_t_comes q_t_wants q_t_runs q_t_readKind q_t_readComes q_t_readWants q_t_queueNow q_t_servedAt q_t_comesWas q_t_readingOf q_t_readingAt q_t_sheetSize q_t_sheetLane q_t_sheet q_t_hands t_fault t_persons t_law t_bellSet t_readAt t_readLaw t_readMany t_queueMany t_servedNow t_doneAt t_readings t_whichMany t_whichOne t_whichTwo t_traceNow t_sheet p_from p_n y1 h2 _) (cwV 2 hts gX9_figure_X9_codeAt rfl rfl rfl (by decide +kernel) ⟨(Nat.le_of_ble_eq_true rfl), (Nat.le_of_ble_eq_true rfl)⟩) (pre_V hK hP hD [0, 1] rfl rfl rfl rfl) rfl rfl hl.1 rfl (lv_room (Nat.le_of_ble_eq_true rfl)) dX9_figure_3 ⟨Nat.zero_le _, Nat.zero_le _⟩) hP hD hS hA [0, 1] [] [0, 1] rfl rfl rfl (by decide) rfl rfl (fun H locs hP hD hS => ?_)
  refine lv_bipush (v := 48) hx hb dX9_figure_6 (by decide) ?_
  refine lv_isub hx hb dX9_figure_8 ?_
  refine lv_topi (fun y3 ey3 => ?_)
  have hM := o_lt hM y3 ey3
  refine lv_istore (lv' := [(5, .int y3), (0, .ref q_t), (1, .int p_from), (2, .int p_n), (3, .int p_lowest), (4, .int p_most)]) hx hb dX9_figure_9 hl (Nat.le_of_ble_eq_true rfl) rfl (fun ls hl => ?_)
  refine lv_iload hx hb dX9_figure_11 (lv_at hl 0 rfl) ?_
  refine lv_i2l (v := y3.toInt64) hx hb dX9_figure_13 rfl ?_
  refine lv_iload_n hx hb dX9_figure_14 rfl (lv_at hl 4 rfl) ?_
  refine lv_i2l (v := p_lowest.toInt64) hx hb dX9_figure_15 rfl ?_
  refine lv_iload hx hb dX9_figure_16 (lv_at hl 5 rfl) ?_
  refine lv_i2l (v := p_most.toInt64) hx hb dX9_figure_18 rfl ?_
  obtain ⟨y4, h5, hM⟩ := o_bd hM
  refine af_i (ws2 := (w_Mo_figure cI cJ cS q_t q_t_kindOf q_t_comes q_t_wants q_t_runs q_t_readKind q_t_readComes q_t_readWants q_t_queueNow q_t_servedAt q_t_comesWas q_t_readingOf q_t_readingAt q_t_sheetSize q_t_sheetLane q_t_sheet q_t_hands t_fault t_persons t_law t_bellSet t_readAt t_readLaw t_readMany t_queueMany t_servedNow t_doneAt t_readings t_whichMany t_whichOne t_whichTwo t_traceNow t_sheet)) (va_runS (As := [.long y3.toInt64, .long p_lowest.toInt64, .long p_most.toInt64]) (rest := []) ⟨hx, hb, hml, hown, hts⟩ (c_Mo_in l D cI cJ cS y3.toInt64 p_lowest.toInt64 p_most.toInt64 y4 h5 _) (va_cwS 3 hts gX9_figure_X9_in rfl rfl rfl (by decide +kernel) ⟨(Nat.le_of_ble_eq_true rfl), (Nat.le_of_ble_eq_true rfl)⟩) (pre_S hK hP hD [] rfl rfl) rfl rfl hl.1 rfl (lv_room (Nat.le_of_ble_eq_true rfl)) dX9_figure_19 ⟨Nat.zero_le _, Nat.zero_le _⟩) hP hD hS hA [] [0, 1] [0, 1] rfl rfl rfl (by decide) rfl rfl (fun H locs hP hD hS => ?_)
  refine lv_istore (lv' := [(6, .int y4), (5, .int y3), (0, .ref q_t), (1, .int p_from), (2, .int p_n), (3, .int p_lowest), (4, .int p_most)]) hx hb dX9_figure_22 hl (Nat.le_of_ble_eq_true rfl) rfl (fun ls hl => ?_)
  refine lv_aload_n hx hb dX9_figure_24 rfl (lv_at hl 2 rfl) ?_
  refine lv_dup hx hb dX9_figure_25 rfl ?_
  refine va_get (ci := 8) (v := .int t_readAt) (C := RX9) (T := TX9) (N := 31) hx hb hts iX9 hown hK.1 hP 0 rfl rfl 8 (Nat.le_of_ble_eq_true rfl) k0 (fun _ h9 => h9) rfl dX9_figure_26 ?_
  refine lv_iload hx hb dX9_figure_29 (lv_at hl 0 rfl) ?_
  refine lv_if_eq (tgt := 38) hx hb dX9_figure_31 (by decide) (fun c6 => ?_) (fun c6 => ?_)
  · have hM := (o_if hM).1 c6
    refine lv_iconst (v := 0) hx hb dX9_figure_38 (by decide) ?_
    exact J39 y3 y4 t_readAt 0 t_readAt hM _ _ hP hD hS _ (lv_sub hl [1, 0] rfl)
  · have hM := (o_if hM).2 c6
    refine lv_iconst (v := 1) hx hb dX9_figure_34 (by decide) ?_
    refine lv_goto (tgt := 39) hx hb dX9_figure_35 (by decide) ?_
    exact J39 y3 y4 t_readAt 1 t_readAt hM _ _ hP hD hS _ (lv_sub hl [1, 0] rfl)
/-! ===== TurnQueueModel.readsOne ===== -/
abbrev w_Mo_readsOne (cI cJ cS : ClassId) (q_t : Nat) (q_t_kindOf : Nat) (q_t_comes : Nat) (q_t_wants : Nat) (q_t_runs : Nat) (q_t_readKind : Nat) (q_t_readComes : Nat) (q_t_readWants : Nat) (q_t_queueNow : Nat) (q_t_servedAt : Nat) (q_t_comesWas : Nat) (q_t_readingOf : Nat) (q_t_readingAt : Nat) (q_t_sheetSize : Nat) (q_t_sheetLane : Nat) (q_t_sheet : Nat) (q_t_hands : Nat) (t_fault : Int32) (t_persons : Int32) (t_law : Int32) (t_bellSet : Int64) (t_readAt : Int32) (t_readLaw : Int32) (t_readMany : Int32) (t_queueMany : Int32) (t_servedNow : Int32) (t_doneAt : Int32) (t_readings : Int32) (t_whichMany : Int32) (t_whichOne : Int32) (t_whichTwo : Int32) (t_traceNow : Int32) (t_readKind : Nat → Int32) (t_readComes : Nat → Int32) (t_readWants : Nat → Int32) (t_sheet : Nat → Int32) : va_W := [(q_t, .inr (8, [.int t_fault, .int t_persons, .int t_law, .ref q_t_kindOf, .ref q_t_comes, .ref q_t_wants, .ref q_t_runs, .long t_bellSet, .int t_readAt, .int t_readLaw, .int t_readMany, .ref q_t_readKind, .ref q_t_readComes, .ref q_t_readWants, .ref q_t_queueNow, .int t_queueMany, .int t_servedNow, .int t_doneAt, .ref q_t_servedAt, .ref q_t_comesWas, .int t_readings, .ref q_t_readingOf, .ref q_t_readingAt, .int t_whichMany, .int t_whichOne, .int t_whichTwo, .ref q_t_sheetSize, .ref q_t_sheetLane, .ref q_t_sheet, .ref q_t_hands, .int t_traceNow])), (q_t_readKind, ar cI 7 t_readKind), (q_t_readComes, ar cI 7 t_readComes), (q_t_readWants, ar cI 7 t_readWants), (q_t_sheet, ar cI 240 t_sheet)]
abbrev rm_Mo_readsOne : Room := { frames := 2, cells := 0, slots := 0, locals := 51 }
noncomputable def Mo_readsOne_j157 (p_from : Int32) (p_n : Int32) (t_sheet : Nat → Int32) (x4 : Int32) (x5 : Int32) (x6 : Int32) (s1 : Int32) (s2 : Int32) (t_readAt : Int32) (t_readMany : Int32) (t_readKind : Nat → Int32) (t_readComes : Nat → Int32) (t_readWants : Nat → Int32) : Option (Int32 × Int32 × Int32 × (Nat → Int32) × (Nat → Int32) × (Nat → Int32)) :=
  if ck s1 7 = true then
    lt ((10 * x4) + x5) fun y22 =>
    if ck t_readMany 7 = true then
      if ck t_readMany 7 = true then
        lt (t_readMany + 1) fun y25 =>
        some (1, t_readAt, y25, upd t_readKind s1.toNatClampNeg s2, upd t_readComes t_readMany.toNatClampNeg y22, upd t_readWants t_readMany.toNatClampNeg x6)
      else none
    else none
  else none
noncomputable def Mo_readsOne_j119 (p_from : Int32) (p_n : Int32) (t_sheet : Nat → Int32) (x3 : Int32) (x4 : Int32) (x5 : Int32) (s0 : Int32) (t_readAt : Int32) (t_readMany : Int32) (t_readKind : Nat → Int32) (t_readComes : Nat → Int32) (t_readWants : Nat → Int32) : Option (Int32 × Int32 × Int32 × (Nat → Int32) × (Nat → Int32) × (Nat → Int32)) :=
  if 0 ≤ s0 then
    if x3 = 112 then
      Mo_readsOne_j157 p_from p_n t_sheet x4 x5 s0 t_readMany 0 t_readAt t_readMany t_readKind t_readComes t_readWants
    else
      if x3 = 109 then
        Mo_readsOne_j157 p_from p_n t_sheet x4 x5 s0 t_readMany 1 t_readAt t_readMany t_readKind t_readComes t_readWants
      else
        Mo_readsOne_j157 p_from p_n t_sheet x4 x5 s0 t_readMany 2 t_readAt t_readMany t_readKind t_readComes t_readWants
  else
    some (0, t_readAt, t_readMany, t_readKind, t_readComes, t_readWants)
noncomputable def Mo_readsOne_j98 (p_from : Int32) (p_n : Int32) (t_sheet : Nat → Int32) (x3 : Int32) (x4 : Int32) (s0 : Int32) (t_readAt : Int32) (t_readMany : Int32) (t_readKind : Nat → Int32) (t_readComes : Nat → Int32) (t_readWants : Nat → Int32) : Option (Int32 × Int32 × Int32 × (Nat → Int32) × (Nat → Int32) × (Nat → Int32)) :=
  if 0 ≤ s0 then
    (Mo_figure p_from p_n 1 9 t_sheet t_readAt).bind fun y16 =>
    Mo_readsOne_j119 p_from p_n t_sheet x3 x4 s0 y16.1 y16.2 t_readMany t_readKind t_readComes t_readWants
  else
    Mo_readsOne_j119 p_from p_n t_sheet x3 x4 s0 (-9) t_readAt t_readMany t_readKind t_readComes t_readWants
noncomputable def Mo_readsOne_j59 (p_from : Int32) (p_n : Int32) (t_sheet : Nat → Int32) (x3 : Int32) (t_readAt : Int32) (t_readMany : Int32) (t_readKind : Nat → Int32) (t_readComes : Nat → Int32) (t_readWants : Nat → Int32) : Option (Int32 × Int32 × Int32 × (Nat → Int32) × (Nat → Int32) × (Nat → Int32)) :=
  lt (t_readAt + 1) fun y9 =>
  (Mo_figure p_from p_n 0 5 t_sheet y9).bind fun y10 =>
  if 0 ≤ y10.1 then
    (Mo_figure p_from p_n 0 9 t_sheet y10.2).bind fun y13 =>
    Mo_readsOne_j98 p_from p_n t_sheet x3 y10.1 y13.1 y13.2 t_readMany t_readKind t_readComes t_readWants
  else
    Mo_readsOne_j98 p_from p_n t_sheet x3 y10.1 (-9) y10.2 t_readMany t_readKind t_readComes t_readWants
noncomputable def Mo_readsOne (p_from : Int32) (p_n : Int32) (t_sheet : Nat → Int32) (t_readAt : Int32) (t_readMany : Int32) (t_readKind : Nat → Int32) (t_readComes : Nat → Int32) (t_readWants : Nat → Int32) : Option (Int32 × Int32 × Int32 × (Nat → Int32) × (Nat → Int32) × (Nat → Int32)) :=
  if t_readMany = 7 then
    some (0, t_readAt, t_readMany, t_readKind, t_readComes, t_readWants)
  else
    (Mo_codeAt p_from p_n t_readAt t_sheet).bind fun y2 =>
    if y2 = 59 then
      lt (t_readAt + 1) fun y5 =>
      (Mo_codeAt p_from p_n y5 t_sheet).bind fun y6 =>
      if y6 = 112 then
        Mo_readsOne_j59 p_from p_n t_sheet y6 y5 t_readMany t_readKind t_readComes t_readWants
      else
        if y6 = 109 then
          Mo_readsOne_j59 p_from p_n t_sheet y6 y5 t_readMany t_readKind t_readComes t_readWants
        else
          if y6 = 99 then
            Mo_readsOne_j59 p_from p_n t_sheet y6 y5 t_readMany t_readKind t_readComes t_readWants
          else
            some (0, y5, t_readMany, t_readKind, t_readComes, t_readWants)
    else
      some (0, t_readAt, t_readMany, t_readKind, t_readComes, t_readWants)
set_option maxRecDepth 100000 in
set_option maxHeartbeats 4000000 in
theorem c_Mo_readsOne (l : Launch) (D : va_G) (cI cJ cS : ClassId) (q_t q_t_kindOf q_t_comes q_t_wants q_t_runs q_t_readKind q_t_readComes q_t_readWants q_t_queueNow q_t_servedAt q_t_comesWas q_t_readingOf q_t_readingAt q_t_sheetSize q_t_sheetLane q_t_sheet q_t_hands : Nat) (t_fault : Int32) (t_persons : Int32) (t_law : Int32) (t_bellSet : Int64) (t_readAt : Int32) (t_readLaw : Int32) (t_readMany : Int32) (t_queueMany : Int32) (t_servedNow : Int32) (t_doneAt : Int32) (t_readings : Int32) (t_whichMany : Int32) (t_whichOne : Int32) (t_whichTwo : Int32) (t_traceNow : Int32) (t_readKind : Nat → Int32) (t_readComes : Nat → Int32) (t_readWants : Nat → Int32) (t_sheet : Nat → Int32) (p_from : Int32) (p_n : Int32) (o : Int32 × Int32 × Int32 × (Nat → Int32) × (Nat → Int32) × (Nat → Int32)) (hM : Mo_readsOne p_from p_n t_sheet t_readAt t_readMany t_readKind t_readComes t_readWants = some o) : Ci l yX9_readsOne wsX9_readsOne rm_Mo_readsOne D cI cJ cS [.ref q_t, .int p_from, .int p_n] (w_Mo_readsOne cI cJ cS q_t q_t_kindOf q_t_comes q_t_wants q_t_runs q_t_readKind q_t_readComes q_t_readWants q_t_queueNow q_t_servedAt q_t_comesWas q_t_readingOf q_t_readingAt q_t_sheetSize q_t_sheetLane q_t_sheet q_t_hands t_fault t_persons t_law t_bellSet t_readAt t_readLaw t_readMany t_queueMany t_servedNow t_doneAt t_readings t_whichMany t_whichOne t_whichTwo t_traceNow t_readKind t_readComes t_readWants t_sheet) (w_Mo_readsOne cI cJ cS q_t q_t_kindOf q_t_comes q_t_wants q_t_runs q_t_readKind q_t_readComes q_t_readWants q_t_queueNow q_t_servedAt q_t_comesWas q_t_readingOf q_t_readingAt q_t_sheetSize q_t_sheetLane q_t_sheet q_t_hands t_fault t_persons t_law t_bellSet o.2.1 t_readLaw o.2.2.1 t_queueMany t_servedNow t_doneAt t_readings t_whichMany t_whichOne t_whichTwo t_traceNow o.2.2.2.1 o.2.2.2.2.1 o.2.2.2.2.2 t_sheet) o.1 := by
  refine Ci.of (cc := cX9_readsOne) (maxL := 7) (ret := (some .boolean)) (by decide) rfl (Nat.le_of_ble_eq_true rfl) ?_
  intro p e s m args below meth c A ls hE
  obtain ⟨hx, hb, hr, hml, hown, hts, hlocks, hK, hA, hP, hD, hS, hl⟩ := hE
  have hown : s.vm.findClass RX9 = some m.cls := hown
  have hl : lv_has ls 7 [(0, .ref q_t), (1, .int p_from), (2, .int p_n)] := hl
  have iX9 : ∀ w ∈ u_ws RX9 TX9 31, w ∈ wsX9_readsOne := by decide +kernel
  have k0 := hts (.fieldLink RX9 84 "TurnQueueModel" "readMany" "I") (by decide +kernel)
  have k1 := hts (.fieldLink RX9 77 "TurnQueueModel" "readAt" "I") (by decide +kernel)
  have k2 := hts (.fieldLink RX9 22 "TurnQueueModel" "readKind" "[I") (by decide +kernel)
  have k3 := hts (.fieldLink RX9 25 "TurnQueueModel" "readComes" "[I") (by decide +kernel)
  have k4 := hts (.fieldLink RX9 28 "TurnQueueModel" "readWants" "[I") (by decide +kernel)
  have J157 : ∀ (x4 : Int32) (x5 : Int32) (x6 : Int32) (s1 : Int32) (s2 : Int32) (t_readAt : Int32) (t_readMany : Int32) (t_readKind : Nat → Int32) (t_readComes : Nat → Int32) (t_readWants : Nat → Int32), Mo_readsOne_j157 p_from p_n t_sheet x4 x5 x6 s1 s2 t_readAt t_readMany t_readKind t_readComes t_readWants = some o → ∀ (H : Heap) (locs : List Loc), va_P D vwCl (w_Mo_readsOne cI cJ cS q_t q_t_kindOf q_t_comes q_t_wants q_t_runs q_t_readKind q_t_readComes q_t_readWants q_t_queueNow q_t_servedAt q_t_comesWas q_t_readingOf q_t_readingAt q_t_sheetSize q_t_sheetLane q_t_sheet q_t_hands t_fault t_persons t_law t_bellSet t_readAt t_readLaw t_readMany t_queueMany t_servedNow t_doneAt t_readings t_whichMany t_whichOne t_whichTwo t_traceNow t_readKind t_readComes t_readWants t_sheet) H → va_D A (w_Mo_readsOne cI cJ cS q_t q_t_kindOf q_t_comes q_t_wants q_t_runs q_t_readKind q_t_readComes q_t_readWants q_t_queueNow q_t_servedAt q_t_comesWas q_t_readingOf q_t_readingAt q_t_sheetSize q_t_sheetLane q_t_sheet q_t_hands t_fault t_persons t_law t_bellSet t_readAt t_readLaw t_readMany t_queueMany t_servedNow t_doneAt t_readings t_whichMany t_whichOne t_whichTwo t_traceNow t_readKind t_readComes t_readWants t_sheet) → va_S A s.heap H locs → ∀ ls : Array Slot, lv_has ls 7 [(0, .ref q_t), (4, .int x4), (5, .int x5), (6, .int x6)] → W p l e (headSpec wsX9_readsOne rm_Mo_readsOne).room s m args below meth c H locs 0 0 (MQ below (CQi D (w_Mo_readsOne cI cJ cS q_t q_t_kindOf q_t_comes q_t_wants q_t_runs q_t_readKind q_t_readComes q_t_readWants q_t_queueNow q_t_servedAt q_t_comesWas q_t_readingOf q_t_readingAt q_t_sheetSize q_t_sheetLane q_t_sheet q_t_hands t_fault t_persons t_law t_bellSet o.2.1 t_readLaw o.2.2.1 t_queueMany t_servedNow t_doneAt t_readings t_whichMany t_whichOne t_whichTwo t_traceNow o.2.2.2.1 o.2.2.2.2.1 o.2.2.2.2.2 t_sheet) A o.1) args s 0 0 A) (F0 m 157 ls [.int s2, .int s1, .ref q_t_readKind]) := by
    intro x4 x5 x6 s1 s2 t_readAt t_readMany t_readKind t_readComes t_readWants hM H locs hP hD hS ls hl
    unfold Mo_readsOne_j157 at hM
    obtain ⟨h21, hM⟩ := o_ck hM
    refine va_iast hx hb hK.1 hP hD hS 1 0 rfl rfl h21 dX9_readsOne_157 (fun H locs hP hD hS => ?_)
    have hP : va_P D vwCl (w_Mo_readsOne cI cJ cS q_t q_t_kindOf q_t_comes q_t_wants q_t_runs q_t_readKind q_t_readComes q_t_readWants q_t_queueNow q_t_servedAt q_t_comesWas q_t_readingOf q_t_readingAt q_t_sheetSize q_t_sheetLane q_t_sheet q_t_hands t_fault t_persons t_law t_bellSet t_readAt t_readLaw t_readMany t_queueMany t_servedNow t_doneAt t_readings t_whichMany t_whichOne t_whichTwo t_traceNow (upd t_readKind s1.toNatClampNeg s2) t_readComes t_readWants t_sheet) H := hP
    have hD : va_D A (w_Mo_readsOne cI cJ cS q_t q_t_kindOf q_t_comes q_t_wants q_t_runs q_t_readKind q_t_readComes q_t_readWants q_t_queueNow q_t_servedAt q_t_comesWas q_t_readingOf q_t_readingAt q_t_sheetSize q_t_sheetLane q_t_sheet q_t_hands t_fault t_persons t_law t_bellSet t_readAt t_readLaw t_readMany t_queueMany t_servedNow t_doneAt t_readings t_whichMany t_whichOne t_whichTwo t_traceNow (upd t_readKind s1.toNatClampNeg s2) t_readComes t_readWants t_sheet) := hD
    refine lv_aload_n hx hb dX9_readsOne_158 rfl (lv_at hl 0 rfl) ?_
    refine va_get (ci := 8) (v := .ref q_t_readComes) (C := RX9) (T := TX9) (N := 31) hx hb hts iX9 hown hK.1 hP 0 rfl rfl 12 (Nat.le_of_ble_eq_true rfl) k3 (fun _ h9 => h9) rfl dX9_readsOne_159 ?_
    refine lv_aload_n hx hb dX9_readsOne_162 rfl (lv_at hl 0 rfl) ?_
    refine va_get (ci := 8) (v := .int t_readMany) (C := RX9) (T := TX9) (N := 31) hx hb hts iX9 hown hK.1 hP 0 rfl rfl 10 (Nat.le_of_ble_eq_true rfl) k0 (fun _ h9 => h9) rfl dX9_readsOne_163 ?_
    refine lv_bipush (v := 10) hx hb dX9_readsOne_166 (by decide) ?_
    refine lv_iload hx hb dX9_readsOne_168 (lv_at hl 1 rfl) ?_
    refine lv_imul hx hb dX9_readsOne_170 ?_
    refine lv_iload hx hb dX9_readsOne_171 (lv_at hl 2 rfl) ?_
    refine lv_iadd hx hb dX9_readsOne_173 ?_
    refine lv_topi (fun y22 ey22 => ?_)
    have hM := o_lt hM y22 ey22
    obtain ⟨h23, hM⟩ := o_ck hM
    refine va_iast hx hb hK.1 hP hD hS 2 0 rfl rfl h23 dX9_readsOne_174 (fun H locs hP hD hS => ?_)
    have hP : va_P D vwCl (w_Mo_readsOne cI cJ cS q_t q_t_kindOf q_t_comes q_t_wants q_t_runs q_t_readKind q_t_readComes q_t_readWants q_t_queueNow q_t_servedAt q_t_comesWas q_t_readingOf q_t_readingAt q_t_sheetSize q_t_sheetLane q_t_sheet q_t_hands t_fault t_persons t_law t_bellSet t_readAt t_readLaw t_readMany t_queueMany t_servedNow t_doneAt t_readings t_whichMany t_whichOne t_whichTwo t_traceNow (upd t_readKind s1.toNatClampNeg s2) (upd t_readComes t_readMany.toNatClampNeg y22) t_readWants t_sheet) H := hP
    have hD : va_D A (w_Mo_readsOne cI cJ cS q_t q_t_kindOf q_t_comes q_t_wants q_t_runs q_t_readKind q_t_readComes q_t_readWants q_t_queueNow q_t_servedAt q_t_comesWas q_t_readingOf q_t_readingAt q_t_sheetSize q_t_sheetLane q_t_sheet q_t_hands t_fault t_persons t_law t_bellSet t_readAt t_readLaw t_readMany t_queueMany t_servedNow t_doneAt t_readings t_whichMany t_whichOne t_whichTwo t_traceNow (upd t_readKind s1.toNatClampNeg s2) (upd t_readComes t_readMany.toNatClampNeg y22) t_readWants t_sheet) := hD
    refine lv_aload_n hx hb dX9_readsOne_175 rfl (lv_at hl 0 rfl) ?_
    refine va_get (ci := 8) (v := .ref q_t_readWants) (C := RX9) (T := TX9) (N := 31) hx hb hts iX9 hown hK.1 hP 0 rfl rfl 13 (Nat.le_of_ble_eq_true rfl) k4 (fun _ h9 => h9) rfl dX9_readsOne_176 ?_
    refine lv_aload_n hx hb dX9_readsOne_179 rfl (lv_at hl 0 rfl) ?_
    refine va_get (ci := 8) (v := .int t_readMany) (C := RX9) (T := TX9) (N := 31) hx hb hts iX9 hown hK.1 hP 0 rfl rfl 10 (Nat.le_of_ble_eq_true rfl) k0 (fun _ h9 => h9) rfl dX9_readsOne_180 ?_
    refine lv_iload hx hb dX9_readsOne_183 (lv_at hl 3 rfl) ?_
    obtain ⟨h24, hM⟩ := o_ck hM
    refine va_iast hx hb hK.1 hP hD hS 3 0 rfl rfl h24 dX9_readsOne_185 (fun H locs hP hD hS => ?_)
    have hP : va_P D vwCl (w_Mo_readsOne cI cJ cS q_t q_t_kindOf q_t_comes q_t_wants q_t_runs q_t_readKind q_t_readComes q_t_readWants q_t_queueNow q_t_servedAt q_t_comesWas q_t_readingOf q_t_readingAt q_t_sheetSize q_t_sheetLane q_t_sheet q_t_hands t_fault t_persons t_law t_bellSet t_readAt t_readLaw t_readMany t_queueMany t_servedNow t_doneAt t_readings t_whichMany t_whichOne t_whichTwo t_traceNow (upd t_readKind s1.toNatClampNeg s2) (upd t_readComes t_readMany.toNatClampNeg y22) (upd t_readWants t_readMany.toNatClampNeg x6) t_sheet) H := hP
    have hD : va_D A (w_Mo_readsOne cI cJ cS q_t q_t_kindOf q_t_comes q_t_wants q_t_runs q_t_readKind q_t_readComes q_t_readWants q_t_queueNow q_t_servedAt q_t_comesWas q_t_readingOf q_t_readingAt q_t_sheetSize q_t_sheetLane q_t_sheet q_t_hands t_fault t_persons t_law t_bellSet t_readAt t_readLaw t_readMany t_queueMany t_servedNow t_doneAt t_readings t_whichMany t_whichOne t_whichTwo t_traceNow (upd t_readKind s1.toNatClampNeg s2) (upd t_readComes t_readMany.toNatClampNeg y22) (upd t_readWants t_readMany.toNatClampNeg x6) t_sheet) := hD
    refine lv_aload_n hx hb dX9_readsOne_186 rfl (lv_at hl 0 rfl) ?_
    refine lv_dup hx hb dX9_readsOne_187 rfl ?_
    refine va_get (ci := 8) (v := .int t_readMany) (C := RX9) (T := TX9) (N := 31) hx hb hts iX9 hown hK.1 hP 0 rfl rfl 10 (Nat.le_of_ble_eq_true rfl) k0 (fun _ h9 => h9) rfl dX9_readsOne_188 ?_
    refine lv_iconst (v := 1) hx hb dX9_readsOne_191 (by decide) ?_
    refine lv_iadd hx hb dX9_readsOne_192 ?_
    refine lv_topi (fun y25 ey25 => ?_)
    have hM := o_lt hM y25 ey25
    refine va_put (ci := 8) (v := .int y25) (ty := .int) (C := RX9) (T := TX9) (N := 31) hx hb hts iX9 tyX9 tyX9_ok nmX9 hown hK.1 hP hD hS 0 rfl rfl 10 (Nat.le_of_ble_eq_true rfl) k0 (fun _ h9 => h9) rfl (tyX9_ok 10 (Nat.le_of_ble_eq_true rfl)) rfl rfl (Nat.le_of_ble_eq_true rfl) dX9_readsOne_193 (fun H locs hP hD hS => ?_)
    have hP : va_P D vwCl (w_Mo_readsOne cI cJ cS q_t q_t_kindOf q_t_comes q_t_wants q_t_runs q_t_readKind q_t_readComes q_t_readWants q_t_queueNow q_t_servedAt q_t_comesWas q_t_readingOf q_t_readingAt q_t_sheetSize q_t_sheetLane q_t_sheet q_t_hands t_fault t_persons t_law t_bellSet t_readAt t_readLaw y25 t_queueMany t_servedNow t_doneAt t_readings t_whichMany t_whichOne t_whichTwo t_traceNow (upd t_readKind s1.toNatClampNeg s2) (upd t_readComes t_readMany.toNatClampNeg y22) (upd t_readWants t_readMany.toNatClampNeg x6) t_sheet) H := hP
    have hD : va_D A (w_Mo_readsOne cI cJ cS q_t q_t_kindOf q_t_comes q_t_wants q_t_runs q_t_readKind q_t_readComes q_t_readWants q_t_queueNow q_t_servedAt q_t_comesWas q_t_readingOf q_t_readingAt q_t_sheetSize q_t_sheetLane q_t_sheet q_t_hands t_fault t_persons t_law t_bellSet t_readAt t_readLaw y25 t_queueMany t_servedNow t_doneAt t_readings t_whichMany t_whichOne t_whichTwo t_traceNow (upd t_readKind s1.toNatClampNeg s2) (upd t_readComes t_readMany.toNatClampNeg y22) (upd t_readWants t_readMany.toNatClampNeg x6) t_sheet) := hD
    refine lv_iconst (v := 1) hx hb dX9_readsOne_196 (by decide) ?_
    have hM := (Option.some.inj hM)
    subst hM
    exact rt_z hx hb hr hlocks hP hD hS (show narrow .boolean (.int 1) = .int 1 from rfl) dX9_readsOne_197
  have J119 : ∀ (x3 : Int32) (x4 : Int32) (x5 : Int32) (s0 : Int32) (t_readAt : Int32) (t_readMany : Int32) (t_readKind : Nat → Int32) (t_readComes : Nat → Int32) (t_readWants : Nat → Int32), Mo_readsOne_j119 p_from p_n t_sheet x3 x4 x5 s0 t_readAt t_readMany t_readKind t_readComes t_readWants = some o → ∀ (H : Heap) (locs : List Loc), va_P D vwCl (w_Mo_readsOne cI cJ cS q_t q_t_kindOf q_t_comes q_t_wants q_t_runs q_t_readKind q_t_readComes q_t_readWants q_t_queueNow q_t_servedAt q_t_comesWas q_t_readingOf q_t_readingAt q_t_sheetSize q_t_sheetLane q_t_sheet q_t_hands t_fault t_persons t_law t_bellSet t_readAt t_readLaw t_readMany t_queueMany t_servedNow t_doneAt t_readings t_whichMany t_whichOne t_whichTwo t_traceNow t_readKind t_readComes t_readWants t_sheet) H → va_D A (w_Mo_readsOne cI cJ cS q_t q_t_kindOf q_t_comes q_t_wants q_t_runs q_t_readKind q_t_readComes q_t_readWants q_t_queueNow q_t_servedAt q_t_comesWas q_t_readingOf q_t_readingAt q_t_sheetSize q_t_sheetLane q_t_sheet q_t_hands t_fault t_persons t_law t_bellSet t_readAt t_readLaw t_readMany t_queueMany t_servedNow t_doneAt t_readings t_whichMany t_whichOne t_whichTwo t_traceNow t_readKind t_readComes t_readWants t_sheet) → va_S A s.heap H locs → ∀ ls : Array Slot, lv_has ls 7 [(0, .ref q_t), (3, .int x3), (4, .int x4), (5, .int x5)] → W p l e (headSpec wsX9_readsOne rm_Mo_readsOne).room s m args below meth c H locs 0 0 (MQ below (CQi D (w_Mo_readsOne cI cJ cS q_t q_t_kindOf q_t_comes q_t_wants q_t_runs q_t_readKind q_t_readComes q_t_readWants q_t_queueNow q_t_servedAt q_t_comesWas q_t_readingOf q_t_readingAt q_t_sheetSize q_t_sheetLane q_t_sheet q_t_hands t_fault t_persons t_law t_bellSet o.2.1 t_readLaw o.2.2.1 t_queueMany t_servedNow t_doneAt t_readings t_whichMany t_whichOne t_whichTwo t_traceNow o.2.2.2.1 o.2.2.2.2.1 o.2.2.2.2.2 t_sheet) A o.1) args s 0 0 A) (F0 m 119 ls [.int s0]) := by
    intro x3 x4 x5 s0 t_readAt t_readMany t_readKind t_readComes t_readWants hM H locs hP hD hS ls hl
    unfold Mo_readsOne_j119 at hM
    refine lv_istore (lv' := [(6, .int s0), (0, .ref q_t), (3, .int x3), (4, .int x4), (5, .int x5)]) hx hb dX9_readsOne_119 hl (Nat.le_of_ble_eq_true rfl) rfl (fun ls hl => ?_)
    refine lv_iload hx hb dX9_readsOne_121 (lv_at hl 0 rfl) ?_
    refine lv_if_ge (tgt := 128) hx hb dX9_readsOne_123 (by decide) (fun c18 => ?_) (fun c18 => ?_)
    · have hM := (o_if hM).1 c18
      refine lv_aload_n hx hb dX9_readsOne_128 rfl (lv_at hl 1 rfl) ?_
      refine va_get (ci := 8) (v := .ref q_t_readKind) (C := RX9) (T := TX9) (N := 31) hx hb hts iX9 hown hK.1 hP 0 rfl rfl 11 (Nat.le_of_ble_eq_true rfl) k2 (fun _ h9 => h9) rfl dX9_readsOne_129 ?_
      refine lv_aload_n hx hb dX9_readsOne_132 rfl (lv_at hl 1 rfl) ?_
      refine va_get (ci := 8) (v := .int t_readMany) (C := RX9) (T := TX9) (N := 31) hx hb hts iX9 hown hK.1 hP 0 rfl rfl 10 (Nat.le_of_ble_eq_true rfl) k0 (fun _ h9 => h9) rfl dX9_readsOne_133 ?_
      refine lv_iload_n hx hb dX9_readsOne_136 rfl (lv_at hl 2 rfl) ?_
      refine lv_bipush (v := 112) hx hb dX9_readsOne_137 (by decide) ?_
      refine lv_icmp_ne (tgt := 146) hx hb dX9_readsOne_139 (by decide) (fun c19 => ?_) (fun c19 => ?_)
      · have hM := (o_if hM).2 c19
        refine lv_iload_n hx hb dX9_readsOne_146 rfl (lv_at hl 2 rfl) ?_
        refine lv_bipush (v := 109) hx hb dX9_readsOne_147 (by decide) ?_
        refine lv_icmp_ne (tgt := 156) hx hb dX9_readsOne_149 (by decide) (fun c20 => ?_) (fun c20 => ?_)
        · have hM := (o_if hM).2 c20
          refine lv_iconst (v := 2) hx hb dX9_readsOne_156 (by decide) ?_
          exact J157 x4 x5 s0 t_readMany 2 t_readAt t_readMany t_readKind t_readComes t_readWants hM _ _ hP hD hS _ (lv_sub hl [1, 3, 4, 0] rfl)
        · have hM := (o_if hM).1 c20
          refine lv_iconst (v := 1) hx hb dX9_readsOne_152 (by decide) ?_
          refine lv_goto (tgt := 157) hx hb dX9_readsOne_153 (by decide) ?_
          exact J157 x4 x5 s0 t_readMany 1 t_readAt t_readMany t_readKind t_readComes t_readWants hM _ _ hP hD hS _ (lv_sub hl [1, 3, 4, 0] rfl)
      · have hM := (o_if hM).1 c19
        refine lv_iconst (v := 0) hx hb dX9_readsOne_142 (by decide) ?_
        refine lv_goto (tgt := 157) hx hb dX9_readsOne_143 (by decide) ?_
        exact J157 x4 x5 s0 t_readMany 0 t_readAt t_readMany t_readKind t_readComes t_readWants hM _ _ hP hD hS _ (lv_sub hl [1, 3, 4, 0] rfl)
    · have hM := (o_if hM).2 c18
      refine lv_iconst (v := 0) hx hb dX9_readsOne_126 (by decide) ?_
      have hM := (Option.some.inj hM)
      subst hM
      exact rt_z hx hb hr hlocks hP hD hS (show narrow .boolean (.int 0) = .int 0 from rfl) dX9_readsOne_127
  have J98 : ∀ (x3 : Int32) (x4 : Int32) (s0 : Int32) (t_readAt : Int32) (t_readMany : Int32) (t_readKind : Nat → Int32) (t_readComes : Nat → Int32) (t_readWants : Nat → Int32), Mo_readsOne_j98 p_from p_n t_sheet x3 x4 s0 t_readAt t_readMany t_readKind t_readComes t_readWants = some o → ∀ (H : Heap) (locs : List Loc), va_P D vwCl (w_Mo_readsOne cI cJ cS q_t q_t_kindOf q_t_comes q_t_wants q_t_runs q_t_readKind q_t_readComes q_t_readWants q_t_queueNow q_t_servedAt q_t_comesWas q_t_readingOf q_t_readingAt q_t_sheetSize q_t_sheetLane q_t_sheet q_t_hands t_fault t_persons t_law t_bellSet t_readAt t_readLaw t_readMany t_queueMany t_servedNow t_doneAt t_readings t_whichMany t_whichOne t_whichTwo t_traceNow t_readKind t_readComes t_readWants t_sheet) H → va_D A (w_Mo_readsOne cI cJ cS q_t q_t_kindOf q_t_comes q_t_wants q_t_runs q_t_readKind q_t_readComes q_t_readWants q_t_queueNow q_t_servedAt q_t_comesWas q_t_readingOf q_t_readingAt q_t_sheetSize q_t_sheetLane q_t_sheet q_t_hands t_fault t_persons t_law t_bellSet t_readAt t_readLaw t_readMany t_queueMany t_servedNow t_doneAt t_readings t_whichMany t_whichOne t_whichTwo t_traceNow t_readKind t_readComes t_readWants t_sheet) → va_S A s.heap H locs → ∀ ls : Array Slot, lv_has ls 7 [(0, .ref q_t), (1, .int p_from), (2, .int p_n), (3, .int x3), (4, .int x4)] → W p l e (headSpec wsX9_readsOne rm_Mo_readsOne).room s m args below meth c H locs 0 0 (MQ below (CQi D (w_Mo_readsOne cI cJ cS q_t q_t_kindOf q_t_comes q_t_wants q_t_runs q_t_readKind q_t_readComes q_t_readWants q_t_queueNow q_t_servedAt q_t_comesWas q_t_readingOf q_t_readingAt q_t_sheetSize q_t_sheetLane q_t_sheet q_t_hands t_fault t_persons t_law t_bellSet o.2.1 t_readLaw o.2.2.1 t_queueMany t_servedNow t_doneAt t_readings t_whichMany t_whichOne t_whichTwo t_traceNow o.2.2.2.1 o.2.2.2.2.1 o.2.2.2.2.2 t_sheet) A o.1) args s 0 0 A) (F0 m 98 ls [.int s0]) := by
    intro x3 x4 s0 t_readAt t_readMany t_readKind t_readComes t_readWants hM H locs hP hD hS ls hl
    unfold Mo_readsOne_j98 at hM
    refine lv_istore (lv' := [(5, .int s0), (0, .ref q_t), (1, .int p_from), (2, .int p_n), (3, .int x3), (4, .int x4)]) hx hb dX9_readsOne_98 hl (Nat.le_of_ble_eq_true rfl) rfl (fun ls hl => ?_)
    refine lv_iload hx hb dX9_readsOne_100 (lv_at hl 0 rfl) ?_
    refine lv_if_ge (tgt := 110) hx hb dX9_readsOne_102 (by decide) (fun c15 => ?_) (fun c15 => ?_)
    · have hM := (o_if hM).1 c15
      refine lv_aload_n hx hb dX9_readsOne_110 rfl (lv_at hl 1 rfl) ?_
      refine lv_iload_n hx hb dX9_readsOne_111 rfl (lv_at hl 2 rfl) ?_
      refine lv_iload_n hx hb dX9_readsOne_112 rfl (lv_at hl 3 rfl) ?_
      refine lv_iconst (v := 1) hx hb dX9_readsOne_113 (by decide) ?_
      refine lv_bipush (v := 9) hx hb dX9_readsOne_114 (by decide) ?_
      obtain ⟨y16, h17, hM⟩ := o_bd hM
      refine af_i (ws2 := (w_Mo_readsOne cI cJ cS q_t q_t_kindOf q_t_comes q_t_wants q_t_runs q_t_readKind q_t_readComes q_t_readWants q_t_queueNow q_t_servedAt q_t_comesWas q_t_readingOf q_t_readingAt q_t_sheetSize q_t_sheetLane q_t_sheet q_t_hands t_fault t_persons t_law t_bellSet y16.2 t_readLaw t_readMany t_queueMany t_servedNow t_doneAt t_readings t_whichMany t_whichOne t_whichTwo t_traceNow t_readKind t_readComes t_readWants t_sheet)) (va_runV (As := [.int p_from, .int p_n, .int 1, .int 9]) (rest := []) ⟨hx, hb, hml, hown, hts⟩ (c_Mo_figure l D cI cJ cS q_t q_t_kindOf q_t_comes q_t_wants q_t_runs q_t_readKind q_t_readComes q_t_readWants q_t_queueNow q_t_servedAt q_t_comesWas q_t_readingOf q_t_readingAt q_t_sheetSize q_t_sheetLane q_t_sheet q_t_hands t_fault t_persons t_law t_bellSet t_readAt t_readLaw t_readMany t_queueMany t_servedNow t_doneAt t_readings t_whichMany t_whichOne t_whichTwo t_traceNow t_sheet p_from p_n 1 9 y16 h17 _) (cwV 4 hts gX9_readsOne_X9_figure rfl rfl rfl (by decide +kernel) ⟨(Nat.le_of_ble_eq_true rfl), (Nat.le_of_ble_eq_true rfl)⟩) (pre_V hK hP hD [0, 4] rfl rfl rfl rfl) rfl rfl hl.1 rfl (lv_room (Nat.le_of_ble_eq_true rfl)) dX9_readsOne_116 ⟨Nat.zero_le _, Nat.zero_le _⟩) hP hD hS hA [0, 4] [1, 2, 3] [3, 0, 1, 2, 4] rfl rfl rfl (by decide) rfl rfl (fun H locs hP hD hS => ?_)
      exact J119 x3 x4 s0 y16.1 y16.2 t_readMany t_readKind t_readComes t_readWants hM _ _ hP hD hS _ (lv_sub hl [1, 4, 5, 0] rfl)
    · have hM := (o_if hM).2 c15
      refine lv_bipush (v := (-9)) hx hb dX9_readsOne_105 (by decide) ?_
      refine lv_goto (tgt := 119) hx hb dX9_readsOne_107 (by decide) ?_
      exact J119 x3 x4 s0 (-9) t_readAt t_readMany t_readKind t_readComes t_readWants hM _ _ hP hD hS _ (lv_sub hl [1, 4, 5, 0] rfl)
  have J59 : ∀ (x3 : Int32) (t_readAt : Int32) (t_readMany : Int32) (t_readKind : Nat → Int32) (t_readComes : Nat → Int32) (t_readWants : Nat → Int32), Mo_readsOne_j59 p_from p_n t_sheet x3 t_readAt t_readMany t_readKind t_readComes t_readWants = some o → ∀ (H : Heap) (locs : List Loc), va_P D vwCl (w_Mo_readsOne cI cJ cS q_t q_t_kindOf q_t_comes q_t_wants q_t_runs q_t_readKind q_t_readComes q_t_readWants q_t_queueNow q_t_servedAt q_t_comesWas q_t_readingOf q_t_readingAt q_t_sheetSize q_t_sheetLane q_t_sheet q_t_hands t_fault t_persons t_law t_bellSet t_readAt t_readLaw t_readMany t_queueMany t_servedNow t_doneAt t_readings t_whichMany t_whichOne t_whichTwo t_traceNow t_readKind t_readComes t_readWants t_sheet) H → va_D A (w_Mo_readsOne cI cJ cS q_t q_t_kindOf q_t_comes q_t_wants q_t_runs q_t_readKind q_t_readComes q_t_readWants q_t_queueNow q_t_servedAt q_t_comesWas q_t_readingOf q_t_readingAt q_t_sheetSize q_t_sheetLane q_t_sheet q_t_hands t_fault t_persons t_law t_bellSet t_readAt t_readLaw t_readMany t_queueMany t_servedNow t_doneAt t_readings t_whichMany t_whichOne t_whichTwo t_traceNow t_readKind t_readComes t_readWants t_sheet) → va_S A s.heap H locs → ∀ ls : Array Slot, lv_has ls 7 [(0, .ref q_t), (1, .int p_from), (2, .int p_n), (3, .int x3)] → W p l e (headSpec wsX9_readsOne rm_Mo_readsOne).room s m args below meth c H locs 0 0 (MQ below (CQi D (w_Mo_readsOne cI cJ cS q_t q_t_kindOf q_t_comes q_t_wants q_t_runs q_t_readKind q_t_readComes q_t_readWants q_t_queueNow q_t_servedAt q_t_comesWas q_t_readingOf q_t_readingAt q_t_sheetSize q_t_sheetLane q_t_sheet q_t_hands t_fault t_persons t_law t_bellSet o.2.1 t_readLaw o.2.2.1 t_queueMany t_servedNow t_doneAt t_readings t_whichMany t_whichOne t_whichTwo t_traceNow o.2.2.2.1 o.2.2.2.2.1 o.2.2.2.2.2 t_sheet) A o.1) args s 0 0 A) (F0 m 59 ls []) := by
    intro x3 t_readAt t_readMany t_readKind t_readComes t_readWants hM H locs hP hD hS ls hl
    unfold Mo_readsOne_j59 at hM
    refine lv_aload_n hx hb dX9_readsOne_59 rfl (lv_at hl 0 rfl) ?_
    refine lv_dup hx hb dX9_readsOne_60 rfl ?_
    refine va_get (ci := 8) (v := .int t_readAt) (C := RX9) (T := TX9) (N := 31) hx hb hts iX9 hown hK.1 hP 0 rfl rfl 8 (Nat.le_of_ble_eq_true rfl) k1 (fun _ h9 => h9) rfl dX9_readsOne_61 ?_
    refine lv_iconst (v := 1) hx hb dX9_readsOne_64 (by decide) ?_
    refine lv_iadd hx hb dX9_readsOne_65 ?_
    refine lv_topi (fun y9 ey9 => ?_)
    have hM := o_lt hM y9 ey9
    refine va_put (ci := 8) (v := .int y9) (ty := .int) (C := RX9) (T := TX9) (N := 31) hx hb hts iX9 tyX9 tyX9_ok nmX9 hown hK.1 hP hD hS 0 rfl rfl 8 (Nat.le_of_ble_eq_true rfl) k1 (fun _ h9 => h9) rfl (tyX9_ok 8 (Nat.le_of_ble_eq_true rfl)) rfl rfl (Nat.le_of_ble_eq_true rfl) dX9_readsOne_66 (fun H locs hP hD hS => ?_)
    have hP : va_P D vwCl (w_Mo_readsOne cI cJ cS q_t q_t_kindOf q_t_comes q_t_wants q_t_runs q_t_readKind q_t_readComes q_t_readWants q_t_queueNow q_t_servedAt q_t_comesWas q_t_readingOf q_t_readingAt q_t_sheetSize q_t_sheetLane q_t_sheet q_t_hands t_fault t_persons t_law t_bellSet y9 t_readLaw t_readMany t_queueMany t_servedNow t_doneAt t_readings t_whichMany t_whichOne t_whichTwo t_traceNow t_readKind t_readComes t_readWants t_sheet) H := hP
    have hD : va_D A (w_Mo_readsOne cI cJ cS q_t q_t_kindOf q_t_comes q_t_wants q_t_runs q_t_readKind q_t_readComes q_t_readWants q_t_queueNow q_t_servedAt q_t_comesWas q_t_readingOf q_t_readingAt q_t_sheetSize q_t_sheetLane q_t_sheet q_t_hands t_fault t_persons t_law t_bellSet y9 t_readLaw t_readMany t_queueMany t_servedNow t_doneAt t_readings t_whichMany t_whichOne t_whichTwo t_traceNow t_readKind t_readComes t_readWants t_sheet) := hD
    refine lv_aload_n hx hb dX9_readsOne_69 rfl (lv_at hl 0 rfl) ?_
    refine lv_iload_n hx hb dX9_readsOne_70 rfl (lv_at hl 1 rfl) ?_
    refine lv_iload_n hx hb dX9_readsOne_71 rfl (lv_at hl 2 rfl) ?_
    refine lv_iconst (v := 0) hx hb dX9_readsOne_72 (by decide) ?_
    refine lv_iconst (v := 5) hx hb dX9_readsOne_73 (by decide) ?_
    obtain ⟨y10, h11, hM⟩ := o_bd hM
    refine af_i (ws2 := (w_Mo_readsOne cI cJ cS q_t q_t_kindOf q_t_comes q_t_wants q_t_runs q_t_readKind q_t_readComes q_t_readWants q_t_queueNow q_t_servedAt q_t_comesWas q_t_readingOf q_t_readingAt q_t_sheetSize q_t_sheetLane q_t_sheet q_t_hands t_fault t_persons t_law t_bellSet y10.2 t_readLaw t_readMany t_queueMany t_servedNow t_doneAt t_readings t_whichMany t_whichOne t_whichTwo t_traceNow t_readKind t_readComes t_readWants t_sheet)) (va_runV (As := [.int p_from, .int p_n, .int 0, .int 5]) (rest := []) ⟨hx, hb, hml, hown, hts⟩ (c_Mo_figure l D cI cJ cS q_t q_t_kindOf q_t_comes q_t_wants q_t_runs q_t_readKind q_t_readComes q_t_readWants q_t_queueNow q_t_servedAt q_t_comesWas q_t_readingOf q_t_readingAt q_t_sheetSize q_t_sheetLane q_t_sheet q_t_hands t_fault t_persons t_law t_bellSet y9 t_readLaw t_readMany t_queueMany t_servedNow t_doneAt t_readings t_whichMany t_whichOne t_whichTwo t_traceNow t_sheet p_from p_n 0 5 y10 h11 _) (cwV 4 hts gX9_readsOne_X9_figure rfl rfl rfl (by decide +kernel) ⟨(Nat.le_of_ble_eq_true rfl), (Nat.le_of_ble_eq_true rfl)⟩) (pre_V hK hP hD [0, 4] rfl rfl rfl rfl) rfl rfl hl.1 rfl (lv_room (Nat.le_of_ble_eq_true rfl)) dX9_readsOne_74 ⟨Nat.zero_le _, Nat.zero_le _⟩) hP hD hS hA [0, 4] [1, 2, 3] [3, 0, 1, 2, 4] rfl rfl rfl (by decide) rfl rfl (fun H locs hP hD hS => ?_)
    refine lv_istore (lv' := [(4, .int y10.1), (0, .ref q_t), (1, .int p_from), (2, .int p_n), (3, .int x3)]) hx hb dX9_readsOne_77 hl (Nat.le_of_ble_eq_true rfl) rfl (fun ls hl => ?_)
    refine lv_iload hx hb dX9_readsOne_79 (lv_at hl 0 rfl) ?_
    refine lv_if_ge (tgt := 89) hx hb dX9_readsOne_81 (by decide) (fun c12 => ?_) (fun c12 => ?_)
    · have hM := (o_if hM).1 c12
      refine lv_aload_n hx hb dX9_readsOne_89 rfl (lv_at hl 1 rfl) ?_
      refine lv_iload_n hx hb dX9_readsOne_90 rfl (lv_at hl 2 rfl) ?_
      refine lv_iload_n hx hb dX9_readsOne_91 rfl (lv_at hl 3 rfl) ?_
      refine lv_iconst (v := 0) hx hb dX9_readsOne_92 (by decide) ?_
      refine lv_bipush (v := 9) hx hb dX9_readsOne_93 (by decide) ?_
      obtain ⟨y13, h14, hM⟩ := o_bd hM
      refine af_i (ws2 := (w_Mo_readsOne cI cJ cS q_t q_t_kindOf q_t_comes q_t_wants q_t_runs q_t_readKind q_t_readComes q_t_readWants q_t_queueNow q_t_servedAt q_t_comesWas q_t_readingOf q_t_readingAt q_t_sheetSize q_t_sheetLane q_t_sheet q_t_hands t_fault t_persons t_law t_bellSet y13.2 t_readLaw t_readMany t_queueMany t_servedNow t_doneAt t_readings t_whichMany t_whichOne t_whichTwo t_traceNow t_readKind t_readComes t_readWants t_sheet)) (va_runV (As := [.int p_from, .int p_n, .int 0, .int 9]) (rest := []) ⟨hx, hb, hml, hown, hts⟩ (c_Mo_figure l D cI cJ cS q_t q_t_kindOf q_t_comes q_t_wants q_t_runs q_t_readKind q_t_readComes q_t_readWants q_t_queueNow q_t_servedAt q_t_comesWas q_t_readingOf q_t_readingAt q_t_sheetSize q_t_sheetLane q_t_sheet q_t_hands t_fault t_persons t_law t_bellSet y10.2 t_readLaw t_readMany t_queueMany t_servedNow t_doneAt t_readings t_whichMany t_whichOne t_whichTwo t_traceNow t_sheet p_from p_n 0 9 y13 h14 _) (cwV 4 hts gX9_readsOne_X9_figure rfl rfl rfl (by decide +kernel) ⟨(Nat.le_of_ble_eq_true rfl), (Nat.le_of_ble_eq_true rfl)⟩) (pre_V hK hP hD [0, 4] rfl rfl rfl rfl) rfl rfl hl.1 rfl (lv_room (Nat.le_of_ble_eq_true rfl)) dX9_readsOne_95 ⟨Nat.zero_le _, Nat.zero_le _⟩) hP hD hS hA [0, 4] [1, 2, 3] [3, 0, 1, 2, 4] rfl rfl rfl (by decide) rfl rfl (fun H locs hP hD hS => ?_)
      exact J98 x3 y10.1 y13.1 y13.2 t_readMany t_readKind t_readComes t_readWants hM _ _ hP hD hS _ (lv_sub hl [1, 2, 3, 4, 0] rfl)
    · have hM := (o_if hM).2 c12
      refine lv_bipush (v := (-9)) hx hb dX9_readsOne_84 (by decide) ?_
      refine lv_goto (tgt := 98) hx hb dX9_readsOne_86 (by decide) ?_
      exact J98 x3 y10.1 (-9) y10.2 t_readMany t_readKind t_readComes t_readWants hM _ _ hP hD hS _ (lv_sub hl [1, 2, 3, 4, 0] rfl)
  unfold Mo_readsOne at hM
  refine lv_aload_n hx hb dX9_readsOne_0 rfl (lv_at hl 0 rfl) ?_
  refine va_get (ci := 8) (v := .int t_readMany) (C := RX9) (T := TX9) (N := 31) hx hb hts iX9 hown hK.1 hP 0 rfl rfl 10 (Nat.le_of_ble_eq_true rfl) k0 (fun _ h9 => h9) rfl dX9_readsOne_1 ?_
  refine lv_bipush (v := 7) hx hb dX9_readsOne_4 (by decide) ?_
  refine lv_icmp_eq (tgt := 20) hx hb dX9_readsOne_6 (by decide) (fun c1 => ?_) (fun c1 => ?_)
  · have hM := (o_if hM).1 c1
    refine lv_iconst (v := 0) hx hb dX9_readsOne_20 (by decide) ?_
    have hM := (Option.some.inj hM)
    subst hM
    exact rt_z hx hb hr hlocks hP hD hS (show narrow .boolean (.int 0) = .int 0 from rfl) dX9_readsOne_21
  · have hM := (o_if hM).2 c1
    refine lv_aload_n hx hb dX9_readsOne_9 rfl (lv_at hl 0 rfl) ?_
    refine lv_iload_n hx hb dX9_readsOne_10 rfl (lv_at hl 1 rfl) ?_
    refine lv_iload_n hx hb dX9_readsOne_11 rfl (lv_at hl 2 rfl) ?_
    obtain ⟨y2, h3, hM⟩ := o_bd hM
    refine af_i (ws2 := (w_Mo_readsOne cI cJ cS q_t q_t_kindOf q_t_comes q_t_wants q_t_runs q_t_readKind q_t_readComes q_t_readWants q_t_queueNow q_t_servedAt q_t_comesWas q_t_readingOf q_t_readingAt q_t_sheetSize q_t_sheetLane q_t_sheet q_t_hands t_fault t_persons t_law t_bellSet t_readAt t_readLaw t_readMany t_queueMany t_servedNow t_doneAt t_readings t_whichMany t_whichOne t_whichTwo t_traceNow t_readKind t_readComes t_readWants t_sheet)) (va_runV (As := [.int p_from, .int p_n]) (rest := []) ⟨hx, hb, hml, hown, hts⟩ (c_Mo_codeAt l D cI cJ cS q_t q_t_kindOf q_t_comes q_t_wants q_t_runs q_t_readKind q_t_readComes q_t_readWants q_t_queueNow q_t_servedAt q_t_comesWas q_t_readingOf q_t_readingAt q_t_sheetSize q_t_sheetLane q_t_sheet q_t_hands t_fault t_persons t_law t_bellSet t_readAt t_readLaw t_readMany t_queueMany t_servedNow t_doneAt t_readings t_whichMany t_whichOne t_whichTwo t_traceNow t_sheet p_from p_n y2 h3 _) (cwV 2 hts gX9_readsOne_X9_codeAt rfl rfl rfl (by decide +kernel) ⟨(Nat.le_of_ble_eq_true rfl), (Nat.le_of_ble_eq_true rfl)⟩) (pre_V hK hP hD [0, 4] rfl rfl rfl rfl) rfl rfl hl.1 rfl (lv_room (Nat.le_of_ble_eq_true rfl)) dX9_readsOne_12 ⟨Nat.zero_le _, Nat.zero_le _⟩) hP hD hS hA [0, 4] [1, 2, 3] [3, 0, 1, 2, 4] rfl rfl rfl (by decide) rfl rfl (fun H locs hP hD hS => ?_)
    refine lv_bipush (v := 59) hx hb dX9_readsOne_15 (by decide) ?_
    refine lv_icmp_eq (tgt := 22) hx hb dX9_readsOne_17 (by decide) (fun c4 => ?_) (fun c4 => ?_)
    · have hM := (o_if hM).1 c4
      refine lv_aload_n hx hb dX9_readsOne_22 rfl (lv_at hl 0 rfl) ?_
      refine lv_dup hx hb dX9_readsOne_23 rfl ?_
      refine va_get (ci := 8) (v := .int t_readAt) (C := RX9) (T := TX9) (N := 31) hx hb hts iX9 hown hK.1 hP 0 rfl rfl 8 (Nat.le_of_ble_eq_true rfl) k1 (fun _ h9 => h9) rfl dX9_readsOne_24 ?_
      refine lv_iconst (v := 1) hx hb dX9_readsOne_27 (by decide) ?_
      refine lv_iadd hx hb dX9_readsOne_28 ?_
      refine lv_topi (fun y5 ey5 => ?_)
      have hM := o_lt hM y5 ey5
      refine va_put (ci := 8) (v := .int y5) (ty := .int) (C := RX9) (T := TX9) (N := 31) hx hb hts iX9 tyX9 tyX9_ok nmX9 hown hK.1 hP hD hS 0 rfl rfl 8 (Nat.le_of_ble_eq_true rfl) k1 (fun _ h9 => h9) rfl (tyX9_ok 8 (Nat.le_of_ble_eq_true rfl)) rfl rfl (Nat.le_of_ble_eq_true rfl) dX9_readsOne_29 (fun H locs hP hD hS => ?_)
      have hP : va_P D vwCl (w_Mo_readsOne cI cJ cS q_t q_t_kindOf q_t_comes q_t_wants q_t_runs q_t_readKind q_t_readComes q_t_readWants q_t_queueNow q_t_servedAt q_t_comesWas q_t_readingOf q_t_readingAt q_t_sheetSize q_t_sheetLane q_t_sheet q_t_hands t_fault t_persons t_law t_bellSet y5 t_readLaw t_readMany t_queueMany t_servedNow t_doneAt t_readings t_whichMany t_whichOne t_whichTwo t_traceNow t_readKind t_readComes t_readWants t_sheet) H := hP
      have hD : va_D A (w_Mo_readsOne cI cJ cS q_t q_t_kindOf q_t_comes q_t_wants q_t_runs q_t_readKind q_t_readComes q_t_readWants q_t_queueNow q_t_servedAt q_t_comesWas q_t_readingOf q_t_readingAt q_t_sheetSize q_t_sheetLane q_t_sheet q_t_hands t_fault t_persons t_law t_bellSet y5 t_readLaw t_readMany t_queueMany t_servedNow t_doneAt t_readings t_whichMany t_whichOne t_whichTwo t_traceNow t_readKind t_readComes t_readWants t_sheet) := hD
      refine lv_aload_n hx hb dX9_readsOne_32 rfl (lv_at hl 0 rfl) ?_
      refine lv_iload_n hx hb dX9_readsOne_33 rfl (lv_at hl 1 rfl) ?_
      refine lv_iload_n hx hb dX9_readsOne_34 rfl (lv_at hl 2 rfl) ?_
      obtain ⟨y6, h7, hM⟩ := o_bd hM
      refine af_i (ws2 := (w_Mo_readsOne cI cJ cS q_t q_t_kindOf q_t_comes q_t_wants q_t_runs q_t_readKind q_t_readComes q_t_readWants q_t_queueNow q_t_servedAt q_t_comesWas q_t_readingOf q_t_readingAt q_t_sheetSize q_t_sheetLane q_t_sheet q_t_hands t_fault t_persons t_law t_bellSet y5 t_readLaw t_readMany t_queueMany t_servedNow t_doneAt t_readings t_whichMany t_whichOne t_whichTwo t_traceNow t_readKind t_readComes t_readWants t_sheet)) (va_runV (As := [.int p_from, .int p_n]) (rest := []) ⟨hx, hb, hml, hown, hts⟩ (c_Mo_codeAt l D cI cJ cS q_t q_t_kindOf q_t_comes q_t_wants q_t_runs q_t_readKind q_t_readComes q_t_readWants q_t_queueNow q_t_servedAt q_t_comesWas q_t_readingOf q_t_readingAt q_t_sheetSize q_t_sheetLane q_t_sheet q_t_hands t_fault t_persons t_law t_bellSet y5 t_readLaw t_readMany t_queueMany t_servedNow t_doneAt t_readings t_whichMany t_whichOne t_whichTwo t_traceNow t_sheet p_from p_n y6 h7 _) (cwV 2 hts gX9_readsOne_X9_codeAt rfl rfl rfl (by decide +kernel) ⟨(Nat.le_of_ble_eq_true rfl), (Nat.le_of_ble_eq_true rfl)⟩) (pre_V hK hP hD [0, 4] rfl rfl rfl rfl) rfl rfl hl.1 rfl (lv_room (Nat.le_of_ble_eq_true rfl)) dX9_readsOne_35 ⟨Nat.zero_le _, Nat.zero_le _⟩) hP hD hS hA [0, 4] [1, 2, 3] [3, 0, 1, 2, 4] rfl rfl rfl (by decide) rfl rfl (fun H locs hP hD hS => ?_)
      refine lv_istore_n (lv' := [(3, .int y6), (0, .ref q_t), (1, .int p_from), (2, .int p_n)]) hx hb dX9_readsOne_38 rfl hl (Nat.le_of_ble_eq_true rfl) rfl (fun ls hl => ?_)
      refine lv_iload_n hx hb dX9_readsOne_39 rfl (lv_at hl 0 rfl) ?_
      refine lv_bipush (v := 112) hx hb dX9_readsOne_40 (by decide) ?_
      refine lv_icmp_eq (tgt := 59) hx hb dX9_readsOne_42 (by decide) (fun c8 => ?_) (fun c8 => ?_)
      · have hM := (o_if hM).1 c8
        exact J59 y6 y5 t_readMany t_readKind t_readComes t_readWants hM _ _ hP hD hS _ (lv_sub hl [1, 2, 3, 0] rfl)
      · have hM := (o_if hM).2 c8
        refine lv_iload_n hx hb dX9_readsOne_45 rfl (lv_at hl 0 rfl) ?_
        refine lv_bipush (v := 109) hx hb dX9_readsOne_46 (by decide) ?_
        refine lv_icmp_eq (tgt := 59) hx hb dX9_readsOne_48 (by decide) (fun c26 => ?_) (fun c26 => ?_)
        · have hM := (o_if hM).1 c26
          exact J59 y6 y5 t_readMany t_readKind t_readComes t_readWants hM _ _ hP hD hS _ (lv_sub hl [1, 2, 3, 0] rfl)
        · have hM := (o_if hM).2 c26
          refine lv_iload_n hx hb dX9_readsOne_51 rfl (lv_at hl 0 rfl) ?_
          refine lv_bipush (v := 99) hx hb dX9_readsOne_52 (by decide) ?_
          refine lv_icmp_eq (tgt := 59) hx hb dX9_readsOne_54 (by decide) (fun c27 => ?_) (fun c27 => ?_)
          · have hM := (o_if hM).1 c27
            exact J59 y6 y5 t_readMany t_readKind t_readComes t_readWants hM _ _ hP hD hS _ (lv_sub hl [1, 2, 3, 0] rfl)
          · have hM := (o_if hM).2 c27
            refine lv_iconst (v := 0) hx hb dX9_readsOne_57 (by decide) ?_
            have hM := (Option.some.inj hM)
            subst hM
            exact rt_z hx hb hr hlocks hP hD hS (show narrow .boolean (.int 0) = .int 0 from rfl) dX9_readsOne_58
    · have hM := (o_if hM).2 c4
      refine lv_iconst (v := 0) hx hb dX9_readsOne_20 (by decide) ?_
      have hM := (Option.some.inj hM)
      subst hM
      exact rt_z hx hb hr hlocks hP hD hS (show narrow .boolean (.int 0) = .int 0 from rfl) dX9_readsOne_21
/-! ===== TurnQueueModel.readsDay ===== -/
abbrev w_Mo_readsDay (cI cJ cS : ClassId) (q_t : Nat) (q_t_kindOf : Nat) (q_t_comes : Nat) (q_t_wants : Nat) (q_t_runs : Nat) (q_t_readKind : Nat) (q_t_readComes : Nat) (q_t_readWants : Nat) (q_t_queueNow : Nat) (q_t_servedAt : Nat) (q_t_comesWas : Nat) (q_t_readingOf : Nat) (q_t_readingAt : Nat) (q_t_sheetSize : Nat) (q_t_sheetLane : Nat) (q_t_sheet : Nat) (q_t_hands : Nat) (t_fault : Int32) (t_persons : Int32) (t_law : Int32) (t_bellSet : Int64) (t_readAt : Int32) (t_readLaw : Int32) (t_readMany : Int32) (t_queueMany : Int32) (t_servedNow : Int32) (t_doneAt : Int32) (t_readings : Int32) (t_whichMany : Int32) (t_whichOne : Int32) (t_whichTwo : Int32) (t_traceNow : Int32) (t_readKind : Nat → Int32) (t_readComes : Nat → Int32) (t_readWants : Nat → Int32) (t_sheet : Nat → Int32) : va_W := [(q_t, .inr (8, [.int t_fault, .int t_persons, .int t_law, .ref q_t_kindOf, .ref q_t_comes, .ref q_t_wants, .ref q_t_runs, .long t_bellSet, .int t_readAt, .int t_readLaw, .int t_readMany, .ref q_t_readKind, .ref q_t_readComes, .ref q_t_readWants, .ref q_t_queueNow, .int t_queueMany, .int t_servedNow, .int t_doneAt, .ref q_t_servedAt, .ref q_t_comesWas, .int t_readings, .ref q_t_readingOf, .ref q_t_readingAt, .int t_whichMany, .int t_whichOne, .int t_whichTwo, .ref q_t_sheetSize, .ref q_t_sheetLane, .ref q_t_sheet, .ref q_t_hands, .int t_traceNow])), (q_t_readKind, ar cI 7 t_readKind), (q_t_readComes, ar cI 7 t_readComes), (q_t_readWants, ar cI 7 t_readWants), (q_t_sheet, ar cI 240 t_sheet)]
abbrev rm_Mo_readsDay : Room := { frames := 3, cells := 0, slots := 0, locals := 77 }
noncomputable def Mo_readsDay_b79 (p_from : Int32) (p_n : Int32) (t_sheet : Nat → Int32) (x3 : Int32) (t_readAt : Int32) (t_readLaw : Int32) (t_readMany : Int32) (t_readKind : Nat → Int32) (t_readComes : Nat → Int32) (t_readWants : Nat → Int32) : Option ((Int32 × Int32 × Int32 × Int32 × (Nat → Int32) × (Nat → Int32) × (Nat → Int32)) ⊕ (Int32 × Int32 × Int32 × Int32 × (Nat → Int32) × (Nat → Int32) × (Nat → Int32))) :=
  if x3 = 0 then
    if x3 &&& 1 = x3 then
      some (.inr (x3, t_readAt, t_readLaw, t_readMany, t_readKind, t_readComes, t_readWants))
    else none
  else
    if t_readMany < 1 then
      (Mo_readsOne p_from p_n t_sheet t_readAt t_readMany t_readKind t_readComes t_readWants).bind fun y11 =>
      some (.inl (y11.1, y11.2.1, t_readLaw, y11.2.2.1, y11.2.2.2.1, y11.2.2.2.2.1, y11.2.2.2.2.2))
    else
      if p_n ≤ t_readAt then
        if x3 &&& 1 = x3 then
          some (.inr (x3, t_readAt, t_readLaw, t_readMany, t_readKind, t_readComes, t_readWants))
        else none
      else
        (Mo_readsOne p_from p_n t_sheet t_readAt t_readMany t_readKind t_readComes t_readWants).bind fun y15 =>
        some (.inl (y15.1, y15.2.1, t_readLaw, y15.2.2.1, y15.2.2.2.1, y15.2.2.2.2.1, y15.2.2.2.2.2))
noncomputable def Mo_readsDay_s79 (p_from : Int32) (p_n : Int32) (t_sheet : Nat → Int32) : (Int32 × Int32 × Int32 × Int32 × (Nat → Int32) × (Nat → Int32) × (Nat → Int32)) → Option ((Int32 × Int32 × Int32 × Int32 × (Nat → Int32) × (Nat → Int32) × (Nat → Int32)) ⊕ (Int32 × Int32 × Int32 × Int32 × (Nat → Int32) × (Nat → Int32) × (Nat → Int32))) := fun x => Mo_readsDay_b79 p_from p_n t_sheet x.1 x.2.1 x.2.2.1 x.2.2.2.1 x.2.2.2.2.1 x.2.2.2.2.2.1 x.2.2.2.2.2.2
noncomputable def Mo_readsDay_l79 (p_from : Int32) (p_n : Int32) (t_sheet : Nat → Int32) (x3 : Int32) (t_readAt : Int32) (t_readLaw : Int32) (t_readMany : Int32) (t_readKind : Nat → Int32) (t_readComes : Nat → Int32) (t_readWants : Nat → Int32) : Option (Int32 × Int32 × Int32 × Int32 × (Nat → Int32) × (Nat → Int32) × (Nat → Int32)) := fin (Mo_readsDay_s79 p_from p_n t_sheet) (x3, t_readAt, t_readLaw, t_readMany, t_readKind, t_readComes, t_readWants)
noncomputable def Mo_readsDay_j63 (p_from : Int32) (p_n : Int32) (t_sheet : Nat → Int32) (s1 : Int32) (t_readAt : Int32) (t_readLaw : Int32) (t_readMany : Int32) (t_readKind : Nat → Int32) (t_readComes : Nat → Int32) (t_readWants : Nat → Int32) : Option (Int32 × Int32 × Int32 × Int32 × (Nat → Int32) × (Nat → Int32) × (Nat → Int32)) :=
  if s1 < 0 then
    Mo_readsDay_l79 p_from p_n t_sheet 0 t_readAt s1 t_readMany t_readKind t_readComes t_readWants
  else
    Mo_readsDay_l79 p_from p_n t_sheet 1 t_readAt s1 t_readMany t_readKind t_readComes t_readWants
noncomputable def Mo_readsDay_j41 (p_from : Int32) (p_n : Int32) (t_sheet : Nat → Int32) (x3 : Int32) (s1 : Int32) (s2 : Int32) (t_readAt : Int32) (t_readLaw : Int32) (t_readMany : Int32) (t_readKind : Nat → Int32) (t_readComes : Nat → Int32) (t_readWants : Nat → Int32) : Option (Int32 × Int32 × Int32 × Int32 × (Nat → Int32) × (Nat → Int32) × (Nat → Int32)) :=
  lt (s1 + s2) fun y5 =>
  if x3 = 0 then
    Mo_readsDay_j63 p_from p_n t_sheet (-9) y5 t_readLaw t_readMany t_readKind t_readComes t_readWants
  else
    (Mo_figure p_from p_n 0 2 t_sheet y5).bind fun y17 =>
    Mo_readsDay_j63 p_from p_n t_sheet y17.1 y17.2 t_readLaw t_readMany t_readKind t_readComes t_readWants
noncomputable def Mo_readsDay_j26 (p_from : Int32) (p_n : Int32) (t_sheet : Nat → Int32) (s0 : Int32) (t_readAt : Int32) (t_readLaw : Int32) (t_readMany : Int32) (t_readKind : Nat → Int32) (t_readComes : Nat → Int32) (t_readWants : Nat → Int32) : Option (Int32 × Int32 × Int32 × Int32 × (Nat → Int32) × (Nat → Int32) × (Nat → Int32)) :=
  if s0 = 0 then
    Mo_readsDay_j41 p_from p_n t_sheet s0 t_readAt 0 t_readAt t_readLaw t_readMany t_readKind t_readComes t_readWants
  else
    Mo_readsDay_j41 p_from p_n t_sheet s0 t_readAt 1 t_readAt t_readLaw t_readMany t_readKind t_readComes t_readWants
noncomputable def Mo_readsDay (p_from : Int32) (p_n : Int32) (t_sheet : Nat → Int32) (t_readAt : Int32) (t_readLaw : Int32) (t_readMany : Int32) (t_readKind : Nat → Int32) (t_readComes : Nat → Int32) (t_readWants : Nat → Int32) : Option (Int32 × Int32 × Int32 × Int32 × (Nat → Int32) × (Nat → Int32) × (Nat → Int32)) :=
  (Mo_codeAt p_from p_n 0 t_sheet).bind fun y1 =>
  if y1 = 100 then
    Mo_readsDay_j26 p_from p_n t_sheet 1 0 t_readLaw 0 t_readKind t_readComes t_readWants
  else
    Mo_readsDay_j26 p_from p_n t_sheet 0 0 t_readLaw 0 t_readKind t_readComes t_readWants
theorem Mo_readsDay_l79_eq (p_from : Int32) (p_n : Int32) (t_sheet : Nat → Int32) (x3 : Int32) (t_readAt : Int32) (t_readLaw : Int32) (t_readMany : Int32) (t_readKind : Nat → Int32) (t_readComes : Nat → Int32) (t_readWants : Nat → Int32) : Mo_readsDay_l79 p_from p_n t_sheet x3 t_readAt t_readLaw t_readMany t_readKind t_readComes t_readWants = (Mo_readsDay_b79 p_from p_n t_sheet x3 t_readAt t_readLaw t_readMany t_readKind t_readComes t_readWants).bind (sg (fin (Mo_readsDay_s79 p_from p_n t_sheet))) := by
  unfold Mo_readsDay_l79
  exact fin_eq _ _
theorem Mo_readsDay_l79_fd (p_from : Int32) (p_n : Int32) (t_sheet : Nat → Int32) (x3 : Int32) (t_readAt : Int32) (t_readLaw : Int32) (t_readMany : Int32) (t_readKind : Nat → Int32) (t_readComes : Nat → Int32) (t_readWants : Nat → Int32) : fin (Mo_readsDay_s79 p_from p_n t_sheet) (x3, t_readAt, t_readLaw, t_readMany, t_readKind, t_readComes, t_readWants) = Mo_readsDay_l79 p_from p_n t_sheet x3 t_readAt t_readLaw t_readMany t_readKind t_readComes t_readWants := rfl
set_option maxRecDepth 100000 in
set_option maxHeartbeats 4000000 in
theorem c_Mo_readsDay (l : Launch) (D : va_G) (cI cJ cS : ClassId) (q_t q_t_kindOf q_t_comes q_t_wants q_t_runs q_t_readKind q_t_readComes q_t_readWants q_t_queueNow q_t_servedAt q_t_comesWas q_t_readingOf q_t_readingAt q_t_sheetSize q_t_sheetLane q_t_sheet q_t_hands : Nat) (t_fault : Int32) (t_persons : Int32) (t_law : Int32) (t_bellSet : Int64) (t_readAt : Int32) (t_readLaw : Int32) (t_readMany : Int32) (t_queueMany : Int32) (t_servedNow : Int32) (t_doneAt : Int32) (t_readings : Int32) (t_whichMany : Int32) (t_whichOne : Int32) (t_whichTwo : Int32) (t_traceNow : Int32) (t_readKind : Nat → Int32) (t_readComes : Nat → Int32) (t_readWants : Nat → Int32) (t_sheet : Nat → Int32) (p_from : Int32) (p_n : Int32) (o : Int32 × Int32 × Int32 × Int32 × (Nat → Int32) × (Nat → Int32) × (Nat → Int32)) (hM : Mo_readsDay p_from p_n t_sheet t_readAt t_readLaw t_readMany t_readKind t_readComes t_readWants = some o) : Ci l yX9_readsDay wsX9_readsDay rm_Mo_readsDay D cI cJ cS [.ref q_t, .int p_from, .int p_n] (w_Mo_readsDay cI cJ cS q_t q_t_kindOf q_t_comes q_t_wants q_t_runs q_t_readKind q_t_readComes q_t_readWants q_t_queueNow q_t_servedAt q_t_comesWas q_t_readingOf q_t_readingAt q_t_sheetSize q_t_sheetLane q_t_sheet q_t_hands t_fault t_persons t_law t_bellSet t_readAt t_readLaw t_readMany t_queueMany t_servedNow t_doneAt t_readings t_whichMany t_whichOne t_whichTwo t_traceNow t_readKind t_readComes t_readWants t_sheet) (w_Mo_readsDay cI cJ cS q_t q_t_kindOf q_t_comes q_t_wants q_t_runs q_t_readKind q_t_readComes q_t_readWants q_t_queueNow q_t_servedAt q_t_comesWas q_t_readingOf q_t_readingAt q_t_sheetSize q_t_sheetLane q_t_sheet q_t_hands t_fault t_persons t_law t_bellSet o.2.1 o.2.2.1 o.2.2.2.1 t_queueMany t_servedNow t_doneAt t_readings t_whichMany t_whichOne t_whichTwo t_traceNow o.2.2.2.2.1 o.2.2.2.2.2.1 o.2.2.2.2.2.2 t_sheet) o.1 := by
  refine Ci.of (cc := cX9_readsDay) (maxL := 4) (ret := (some .boolean)) (by decide) rfl (Nat.le_of_ble_eq_true rfl) ?_
  intro p e s m args below meth c A ls hE
  obtain ⟨hx, hb, hr, hml, hown, hts, hlocks, hK, hA, hP, hD, hS, hl⟩ := hE
  have hown : s.vm.findClass RX9 = some m.cls := hown
  have hl : lv_has ls 4 [(0, .ref q_t), (1, .int p_from), (2, .int p_n)] := hl
  have iX9 : ∀ w ∈ u_ws RX9 TX9 31, w ∈ wsX9_readsDay := by decide +kernel
  have k0 := hts (.fieldLink RX9 77 "TurnQueueModel" "readAt" "I") (by decide +kernel)
  have k1 := hts (.fieldLink RX9 84 "TurnQueueModel" "readMany" "I") (by decide +kernel)
  have k2 := hts (.fieldLink RX9 91 "TurnQueueModel" "readLaw" "I") (by decide +kernel)
  have L79 : ∀ n : Nat, (∀ (x3 : Int32) (t_readAt : Int32) (t_readLaw : Int32) (t_readMany : Int32) (t_readKind : Nat → Int32) (t_readComes : Nat → Int32) (t_readWants : Nat → Int32), itr (Mo_readsDay_s79 p_from p_n t_sheet) n (x3, t_readAt, t_readLaw, t_readMany, t_readKind, t_readComes, t_readWants) = some o → ∀ (H : Heap) (locs : List Loc), va_P D vwCl (w_Mo_readsDay cI cJ cS q_t q_t_kindOf q_t_comes q_t_wants q_t_runs q_t_readKind q_t_readComes q_t_readWants q_t_queueNow q_t_servedAt q_t_comesWas q_t_readingOf q_t_readingAt q_t_sheetSize q_t_sheetLane q_t_sheet q_t_hands t_fault t_persons t_law t_bellSet t_readAt t_readLaw t_readMany t_queueMany t_servedNow t_doneAt t_readings t_whichMany t_whichOne t_whichTwo t_traceNow t_readKind t_readComes t_readWants t_sheet) H → va_D A (w_Mo_readsDay cI cJ cS q_t q_t_kindOf q_t_comes q_t_wants q_t_runs q_t_readKind q_t_readComes q_t_readWants q_t_queueNow q_t_servedAt q_t_comesWas q_t_readingOf q_t_readingAt q_t_sheetSize q_t_sheetLane q_t_sheet q_t_hands t_fault t_persons t_law t_bellSet t_readAt t_readLaw t_readMany t_queueMany t_servedNow t_doneAt t_readings t_whichMany t_whichOne t_whichTwo t_traceNow t_readKind t_readComes t_readWants t_sheet) → va_S A s.heap H locs → ∀ ls : Array Slot, lv_has ls 4 [(0, .ref q_t), (1, .int p_from), (2, .int p_n), (3, .int x3)] → W p l e (headSpec wsX9_readsDay rm_Mo_readsDay).room s m args below meth c H locs 0 0 (MQ below (CQi D (w_Mo_readsDay cI cJ cS q_t q_t_kindOf q_t_comes q_t_wants q_t_runs q_t_readKind q_t_readComes q_t_readWants q_t_queueNow q_t_servedAt q_t_comesWas q_t_readingOf q_t_readingAt q_t_sheetSize q_t_sheetLane q_t_sheet q_t_hands t_fault t_persons t_law t_bellSet o.2.1 o.2.2.1 o.2.2.2.1 t_queueMany t_servedNow t_doneAt t_readings t_whichMany t_whichOne t_whichTwo t_traceNow o.2.2.2.2.1 o.2.2.2.2.2.1 o.2.2.2.2.2.2 t_sheet) A o.1) args s 0 0 A) (F0 m 79 ls [])) := by
    intro n
    induction n with
    | zero => exact fun _ _ _ _ _ _ _ hM => (itr_0 hM).elim
    | succ n ih =>
      intro x3 t_readAt t_readLaw t_readMany t_readKind t_readComes t_readWants hM H locs hP hD hS ls hl
      have hM : (Mo_readsDay_b79 p_from p_n t_sheet x3 t_readAt t_readLaw t_readMany t_readKind t_readComes t_readWants).bind (sg (itr (Mo_readsDay_s79 p_from p_n t_sheet) n)) = some o := hM
      unfold Mo_readsDay_b79 at hM
      refine lv_iload_n hx hb dX9_readsDay_79 rfl (lv_at hl 3 rfl) ?_
      refine lv_if_eq (tgt := 109) hx hb dX9_readsDay_80 (by decide) (fun c8 => ?_) (fun c8 => ?_)
      · have hM := (s_if hM).1 c8
        refine lv_iload_n hx hb dX9_readsDay_109 rfl (lv_at hl 3 rfl) ?_
        obtain ⟨h9, hM⟩ := s_gd hM
        have hM := (Option.some.inj (s_rt hM))
        subst hM
        exact rt_z hx hb hr hlocks hP hD hS (nz h9) dX9_readsDay_110
      · have hM := (s_if hM).2 c8
        refine lv_aload_n hx hb dX9_readsDay_83 rfl (lv_at hl 0 rfl) ?_
        refine va_get (ci := 8) (v := .int t_readMany) (C := RX9) (T := TX9) (N := 31) hx hb hts iX9 hown hK.1 hP 0 rfl rfl 10 (Nat.le_of_ble_eq_true rfl) k1 (fun _ h9 => h9) rfl dX9_readsDay_84 ?_
        refine lv_iconst (v := 1) hx hb dX9_readsDay_87 (by decide) ?_
        refine lv_icmp_lt (tgt := 99) hx hb dX9_readsDay_88 (by decide) (fun c10 => ?_) (fun c10 => ?_)
        · have hM := (s_if hM).1 c10
          refine lv_aload_n hx hb dX9_readsDay_99 rfl (lv_at hl 0 rfl) ?_
          refine lv_iload_n hx hb dX9_readsDay_100 rfl (lv_at hl 1 rfl) ?_
          refine lv_iload_n hx hb dX9_readsDay_101 rfl (lv_at hl 2 rfl) ?_
          obtain ⟨y11, h12, hM⟩ := s_bd hM
          refine af_i (ws2 := (w_Mo_readsDay cI cJ cS q_t q_t_kindOf q_t_comes q_t_wants q_t_runs q_t_readKind q_t_readComes q_t_readWants q_t_queueNow q_t_servedAt q_t_comesWas q_t_readingOf q_t_readingAt q_t_sheetSize q_t_sheetLane q_t_sheet q_t_hands t_fault t_persons t_law t_bellSet y11.2.1 t_readLaw y11.2.2.1 t_queueMany t_servedNow t_doneAt t_readings t_whichMany t_whichOne t_whichTwo t_traceNow y11.2.2.2.1 y11.2.2.2.2.1 y11.2.2.2.2.2 t_sheet)) (va_runV (As := [.int p_from, .int p_n]) (rest := []) ⟨hx, hb, hml, hown, hts⟩ (c_Mo_readsOne l D cI cJ cS q_t q_t_kindOf q_t_comes q_t_wants q_t_runs q_t_readKind q_t_readComes q_t_readWants q_t_queueNow q_t_servedAt q_t_comesWas q_t_readingOf q_t_readingAt q_t_sheetSize q_t_sheetLane q_t_sheet q_t_hands t_fault t_persons t_law t_bellSet t_readAt t_readLaw t_readMany t_queueMany t_servedNow t_doneAt t_readings t_whichMany t_whichOne t_whichTwo t_traceNow t_readKind t_readComes t_readWants t_sheet p_from p_n y11 h12 _) (cwV 2 hts gX9_readsDay_X9_readsOne rfl rfl rfl (by decide +kernel) ⟨(Nat.le_of_ble_eq_true rfl), (Nat.le_of_ble_eq_true rfl)⟩) (pre_V hK hP hD [0, 1, 2, 3, 4] rfl rfl rfl rfl) rfl rfl hl.1 rfl (lv_room (Nat.le_of_ble_eq_true rfl)) dX9_readsDay_102 ⟨Nat.zero_le _, Nat.zero_le _⟩) hP hD hS hA [0, 1, 2, 3, 4] [] [0, 1, 2, 3, 4] rfl rfl rfl (by decide) rfl rfl (fun H locs hP hD hS => ?_)
          refine lv_istore_n (lv' := [(3, .int y11.1), (0, .ref q_t), (1, .int p_from), (2, .int p_n)]) hx hb dX9_readsDay_105 rfl hl (Nat.le_of_ble_eq_true rfl) rfl (fun ls hl => ?_)
          refine lv_goto (tgt := 79) hx hb dX9_readsDay_106 (by decide) ?_
          exact ih y11.1 y11.2.1 t_readLaw y11.2.2.1 y11.2.2.2.1 y11.2.2.2.2.1 y11.2.2.2.2.2 (s_jp hM) _ _ hP hD hS _ (lv_sub hl [1, 2, 3, 0] rfl)
        · have hM := (s_if hM).2 c10
          refine lv_aload_n hx hb dX9_readsDay_91 rfl (lv_at hl 0 rfl) ?_
          refine va_get (ci := 8) (v := .int t_readAt) (C := RX9) (T := TX9) (N := 31) hx hb hts iX9 hown hK.1 hP 0 rfl rfl 8 (Nat.le_of_ble_eq_true rfl) k0 (fun _ h9 => h9) rfl dX9_readsDay_92 ?_
          refine lv_iload_n hx hb dX9_readsDay_95 rfl (lv_at hl 2 rfl) ?_
          refine lv_icmp_ge (tgt := 109) hx hb dX9_readsDay_96 (by decide) (fun c13 => ?_) (fun c13 => ?_)
          · have hM := (s_if hM).1 c13
            refine lv_iload_n hx hb dX9_readsDay_109 rfl (lv_at hl 3 rfl) ?_
            obtain ⟨h14, hM⟩ := s_gd hM
            have hM := (Option.some.inj (s_rt hM))
            subst hM
            exact rt_z hx hb hr hlocks hP hD hS (nz h14) dX9_readsDay_110
          · have hM := (s_if hM).2 c13
            refine lv_aload_n hx hb dX9_readsDay_99 rfl (lv_at hl 0 rfl) ?_
            refine lv_iload_n hx hb dX9_readsDay_100 rfl (lv_at hl 1 rfl) ?_
            refine lv_iload_n hx hb dX9_readsDay_101 rfl (lv_at hl 2 rfl) ?_
            obtain ⟨y15, h16, hM⟩ := s_bd hM
            refine af_i (ws2 := (w_Mo_readsDay cI cJ cS q_t q_t_kindOf q_t_comes q_t_wants q_t_runs q_t_readKind q_t_readComes q_t_readWants q_t_queueNow q_t_servedAt q_t_comesWas q_t_readingOf q_t_readingAt q_t_sheetSize q_t_sheetLane q_t_sheet q_t_hands t_fault t_persons t_law t_bellSet y15.2.1 t_readLaw y15.2.2.1 t_queueMany t_servedNow t_doneAt t_readings t_whichMany t_whichOne t_whichTwo t_traceNow y15.2.2.2.1 y15.2.2.2.2.1 y15.2.2.2.2.2 t_sheet)) (va_runV (As := [.int p_from, .int p_n]) (rest := []) ⟨hx, hb, hml, hown, hts⟩ (c_Mo_readsOne l D cI cJ cS q_t q_t_kindOf q_t_comes q_t_wants q_t_runs q_t_readKind q_t_readComes q_t_readWants q_t_queueNow q_t_servedAt q_t_comesWas q_t_readingOf q_t_readingAt q_t_sheetSize q_t_sheetLane q_t_sheet q_t_hands t_fault t_persons t_law t_bellSet t_readAt t_readLaw t_readMany t_queueMany t_servedNow t_doneAt t_readings t_whichMany t_whichOne t_whichTwo t_traceNow t_readKind t_readComes t_readWants t_sheet p_from p_n y15 h16 _) (cwV 2 hts gX9_readsDay_X9_readsOne rfl rfl rfl (by decide +kernel) ⟨(Nat.le_of_ble_eq_true rfl), (Nat.le_of_ble_eq_true rfl)⟩) (pre_V hK hP hD [0, 1, 2, 3, 4] rfl rfl rfl rfl) rfl rfl hl.1 rfl (lv_room (Nat.le_of_ble_eq_true rfl)) dX9_readsDay_102 ⟨Nat.zero_le _, Nat.zero_le _⟩) hP hD hS hA [0, 1, 2, 3, 4] [] [0, 1, 2, 3, 4] rfl rfl rfl (by decide) rfl rfl (fun H locs hP hD hS => ?_)
            refine lv_istore_n (lv' := [(3, .int y15.1), (0, .ref q_t), (1, .int p_from), (2, .int p_n)]) hx hb dX9_readsDay_105 rfl hl (Nat.le_of_ble_eq_true rfl) rfl (fun ls hl => ?_)
            refine lv_goto (tgt := 79) hx hb dX9_readsDay_106 (by decide) ?_
            exact ih y15.1 y15.2.1 t_readLaw y15.2.2.1 y15.2.2.2.1 y15.2.2.2.2.1 y15.2.2.2.2.2 (s_jp hM) _ _ hP hD hS _ (lv_sub hl [1, 2, 3, 0] rfl)
  have J79 : ∀ (x3 : Int32) (t_readAt : Int32) (t_readLaw : Int32) (t_readMany : Int32) (t_readKind : Nat → Int32) (t_readComes : Nat → Int32) (t_readWants : Nat → Int32), Mo_readsDay_l79 p_from p_n t_sheet x3 t_readAt t_readLaw t_readMany t_readKind t_readComes t_readWants = some o → ∀ (H : Heap) (locs : List Loc), va_P D vwCl (w_Mo_readsDay cI cJ cS q_t q_t_kindOf q_t_comes q_t_wants q_t_runs q_t_readKind q_t_readComes q_t_readWants q_t_queueNow q_t_servedAt q_t_comesWas q_t_readingOf q_t_readingAt q_t_sheetSize q_t_sheetLane q_t_sheet q_t_hands t_fault t_persons t_law t_bellSet t_readAt t_readLaw t_readMany t_queueMany t_servedNow t_doneAt t_readings t_whichMany t_whichOne t_whichTwo t_traceNow t_readKind t_readComes t_readWants t_sheet) H → va_D A (w_Mo_readsDay cI cJ cS q_t q_t_kindOf q_t_comes q_t_wants q_t_runs q_t_readKind q_t_readComes q_t_readWants q_t_queueNow q_t_servedAt q_t_comesWas q_t_readingOf q_t_readingAt q_t_sheetSize q_t_sheetLane q_t_sheet q_t_hands t_fault t_persons t_law t_bellSet t_readAt t_readLaw t_readMany t_queueMany t_servedNow t_doneAt t_readings t_whichMany t_whichOne t_whichTwo t_traceNow t_readKind t_readComes t_readWants t_sheet) → va_S A s.heap H locs → ∀ ls : Array Slot, lv_has ls 4 [(0, .ref q_t), (1, .int p_from), (2, .int p_n), (3, .int x3)] → W p l e (headSpec wsX9_readsDay rm_Mo_readsDay).room s m args below meth c H locs 0 0 (MQ below (CQi D (w_Mo_readsDay cI cJ cS q_t q_t_kindOf q_t_comes q_t_wants q_t_runs q_t_readKind q_t_readComes q_t_readWants q_t_queueNow q_t_servedAt q_t_comesWas q_t_readingOf q_t_readingAt q_t_sheetSize q_t_sheetLane q_t_sheet q_t_hands t_fault t_persons t_law t_bellSet o.2.1 o.2.2.1 o.2.2.2.1 t_queueMany t_servedNow t_doneAt t_readings t_whichMany t_whichOne t_whichTwo t_traceNow o.2.2.2.2.1 o.2.2.2.2.2.1 o.2.2.2.2.2.2 t_sheet) A o.1) args s 0 0 A) (F0 m 79 ls []) := by
    intro x3 t_readAt t_readLaw t_readMany t_readKind t_readComes t_readWants hM
    unfold Mo_readsDay_l79 at hM
    obtain ⟨n0, hM⟩ := fin_some hM
    exact (L79 n0) x3 t_readAt t_readLaw t_readMany t_readKind t_readComes t_readWants hM
  have J63 : ∀ (s1 : Int32) (t_readAt : Int32) (t_readLaw : Int32) (t_readMany : Int32) (t_readKind : Nat → Int32) (t_readComes : Nat → Int32) (t_readWants : Nat → Int32), Mo_readsDay_j63 p_from p_n t_sheet s1 t_readAt t_readLaw t_readMany t_readKind t_readComes t_readWants = some o → ∀ (H : Heap) (locs : List Loc), va_P D vwCl (w_Mo_readsDay cI cJ cS q_t q_t_kindOf q_t_comes q_t_wants q_t_runs q_t_readKind q_t_readComes q_t_readWants q_t_queueNow q_t_servedAt q_t_comesWas q_t_readingOf q_t_readingAt q_t_sheetSize q_t_sheetLane q_t_sheet q_t_hands t_fault t_persons t_law t_bellSet t_readAt t_readLaw t_readMany t_queueMany t_servedNow t_doneAt t_readings t_whichMany t_whichOne t_whichTwo t_traceNow t_readKind t_readComes t_readWants t_sheet) H → va_D A (w_Mo_readsDay cI cJ cS q_t q_t_kindOf q_t_comes q_t_wants q_t_runs q_t_readKind q_t_readComes q_t_readWants q_t_queueNow q_t_servedAt q_t_comesWas q_t_readingOf q_t_readingAt q_t_sheetSize q_t_sheetLane q_t_sheet q_t_hands t_fault t_persons t_law t_bellSet t_readAt t_readLaw t_readMany t_queueMany t_servedNow t_doneAt t_readings t_whichMany t_whichOne t_whichTwo t_traceNow t_readKind t_readComes t_readWants t_sheet) → va_S A s.heap H locs → ∀ ls : Array Slot, lv_has ls 4 [(0, .ref q_t), (1, .int p_from), (2, .int p_n)] → W p l e (headSpec wsX9_readsDay rm_Mo_readsDay).room s m args below meth c H locs 0 0 (MQ below (CQi D (w_Mo_readsDay cI cJ cS q_t q_t_kindOf q_t_comes q_t_wants q_t_runs q_t_readKind q_t_readComes q_t_readWants q_t_queueNow q_t_servedAt q_t_comesWas q_t_readingOf q_t_readingAt q_t_sheetSize q_t_sheetLane q_t_sheet q_t_hands t_fault t_persons t_law t_bellSet o.2.1 o.2.2.1 o.2.2.2.1 t_queueMany t_servedNow t_doneAt t_readings t_whichMany t_whichOne t_whichTwo t_traceNow o.2.2.2.2.1 o.2.2.2.2.2.1 o.2.2.2.2.2.2 t_sheet) A o.1) args s 0 0 A) (F0 m 63 ls [.int s1, .ref q_t]) := by
    intro s1 t_readAt t_readLaw t_readMany t_readKind t_readComes t_readWants hM H locs hP hD hS ls hl
    unfold Mo_readsDay_j63 at hM
    refine va_put (ci := 8) (v := .int s1) (ty := .int) (C := RX9) (T := TX9) (N := 31) hx hb hts iX9 tyX9 tyX9_ok nmX9 hown hK.1 hP hD hS 0 rfl rfl 9 (Nat.le_of_ble_eq_true rfl) k2 (fun _ h9 => h9) rfl (tyX9_ok 9 (Nat.le_of_ble_eq_true rfl)) rfl rfl (Nat.le_of_ble_eq_true rfl) dX9_readsDay_63 (fun H locs hP hD hS => ?_)
    have hP : va_P D vwCl (w_Mo_readsDay cI cJ cS q_t q_t_kindOf q_t_comes q_t_wants q_t_runs q_t_readKind q_t_readComes q_t_readWants q_t_queueNow q_t_servedAt q_t_comesWas q_t_readingOf q_t_readingAt q_t_sheetSize q_t_sheetLane q_t_sheet q_t_hands t_fault t_persons t_law t_bellSet t_readAt s1 t_readMany t_queueMany t_servedNow t_doneAt t_readings t_whichMany t_whichOne t_whichTwo t_traceNow t_readKind t_readComes t_readWants t_sheet) H := hP
    have hD : va_D A (w_Mo_readsDay cI cJ cS q_t q_t_kindOf q_t_comes q_t_wants q_t_runs q_t_readKind q_t_readComes q_t_readWants q_t_queueNow q_t_servedAt q_t_comesWas q_t_readingOf q_t_readingAt q_t_sheetSize q_t_sheetLane q_t_sheet q_t_hands t_fault t_persons t_law t_bellSet t_readAt s1 t_readMany t_queueMany t_servedNow t_doneAt t_readings t_whichMany t_whichOne t_whichTwo t_traceNow t_readKind t_readComes t_readWants t_sheet) := hD
    refine lv_aload_n hx hb dX9_readsDay_66 rfl (lv_at hl 0 rfl) ?_
    refine va_get (ci := 8) (v := .int s1) (C := RX9) (T := TX9) (N := 31) hx hb hts iX9 hown hK.1 hP 0 rfl rfl 9 (Nat.le_of_ble_eq_true rfl) k2 (fun _ h9 => h9) rfl dX9_readsDay_67 ?_
    refine lv_if_lt (tgt := 77) hx hb dX9_readsDay_70 (by decide) (fun c7 => ?_) (fun c7 => ?_)
    · have hM := (o_if hM).1 c7
      refine lv_iconst (v := 0) hx hb dX9_readsDay_77 (by decide) ?_
      refine lv_istore_n (lv' := [(3, .int 0), (0, .ref q_t), (1, .int p_from), (2, .int p_n)]) hx hb dX9_readsDay_78 rfl hl (Nat.le_of_ble_eq_true rfl) rfl (fun ls hl => ?_)
      exact J79 0 t_readAt s1 t_readMany t_readKind t_readComes t_readWants hM _ _ hP hD hS _ (lv_sub hl [1, 2, 3, 0] rfl)
    · have hM := (o_if hM).2 c7
      refine lv_iconst (v := 1) hx hb dX9_readsDay_73 (by decide) ?_
      refine lv_goto (tgt := 78) hx hb dX9_readsDay_74 (by decide) ?_
      refine lv_istore_n (lv' := [(3, .int 1), (0, .ref q_t), (1, .int p_from), (2, .int p_n)]) hx hb dX9_readsDay_78 rfl hl (Nat.le_of_ble_eq_true rfl) rfl (fun ls hl => ?_)
      exact J79 1 t_readAt s1 t_readMany t_readKind t_readComes t_readWants hM _ _ hP hD hS _ (lv_sub hl [1, 2, 3, 0] rfl)
  have J41 : ∀ (x3 : Int32) (s1 : Int32) (s2 : Int32) (t_readAt : Int32) (t_readLaw : Int32) (t_readMany : Int32) (t_readKind : Nat → Int32) (t_readComes : Nat → Int32) (t_readWants : Nat → Int32), Mo_readsDay_j41 p_from p_n t_sheet x3 s1 s2 t_readAt t_readLaw t_readMany t_readKind t_readComes t_readWants = some o → ∀ (H : Heap) (locs : List Loc), va_P D vwCl (w_Mo_readsDay cI cJ cS q_t q_t_kindOf q_t_comes q_t_wants q_t_runs q_t_readKind q_t_readComes q_t_readWants q_t_queueNow q_t_servedAt q_t_comesWas q_t_readingOf q_t_readingAt q_t_sheetSize q_t_sheetLane q_t_sheet q_t_hands t_fault t_persons t_law t_bellSet t_readAt t_readLaw t_readMany t_queueMany t_servedNow t_doneAt t_readings t_whichMany t_whichOne t_whichTwo t_traceNow t_readKind t_readComes t_readWants t_sheet) H → va_D A (w_Mo_readsDay cI cJ cS q_t q_t_kindOf q_t_comes q_t_wants q_t_runs q_t_readKind q_t_readComes q_t_readWants q_t_queueNow q_t_servedAt q_t_comesWas q_t_readingOf q_t_readingAt q_t_sheetSize q_t_sheetLane q_t_sheet q_t_hands t_fault t_persons t_law t_bellSet t_readAt t_readLaw t_readMany t_queueMany t_servedNow t_doneAt t_readings t_whichMany t_whichOne t_whichTwo t_traceNow t_readKind t_readComes t_readWants t_sheet) → va_S A s.heap H locs → ∀ ls : Array Slot, lv_has ls 4 [(0, .ref q_t), (1, .int p_from), (2, .int p_n), (3, .int x3)] → W p l e (headSpec wsX9_readsDay rm_Mo_readsDay).room s m args below meth c H locs 0 0 (MQ below (CQi D (w_Mo_readsDay cI cJ cS q_t q_t_kindOf q_t_comes q_t_wants q_t_runs q_t_readKind q_t_readComes q_t_readWants q_t_queueNow q_t_servedAt q_t_comesWas q_t_readingOf q_t_readingAt q_t_sheetSize q_t_sheetLane q_t_sheet q_t_hands t_fault t_persons t_law t_bellSet o.2.1 o.2.2.1 o.2.2.2.1 t_queueMany t_servedNow t_doneAt t_readings t_whichMany t_whichOne t_whichTwo t_traceNow o.2.2.2.2.1 o.2.2.2.2.2.1 o.2.2.2.2.2.2 t_sheet) A o.1) args s 0 0 A) (F0 m 41 ls [.int s2, .int s1, .ref q_t]) := by
    intro x3 s1 s2 t_readAt t_readLaw t_readMany t_readKind t_readComes t_readWants hM H locs hP hD hS ls hl
    unfold Mo_readsDay_j41 at hM
    refine lv_iadd hx hb dX9_readsDay_41 ?_
    refine lv_topi (fun y5 ey5 => ?_)
    have hM := o_lt hM y5 ey5
    refine va_put (ci := 8) (v := .int y5) (ty := .int) (C := RX9) (T := TX9) (N := 31) hx hb hts iX9 tyX9 tyX9_ok nmX9 hown hK.1 hP hD hS 0 rfl rfl 8 (Nat.le_of_ble_eq_true rfl) k0 (fun _ h9 => h9) rfl (tyX9_ok 8 (Nat.le_of_ble_eq_true rfl)) rfl rfl (Nat.le_of_ble_eq_true rfl) dX9_readsDay_42 (fun H locs hP hD hS => ?_)
    have hP : va_P D vwCl (w_Mo_readsDay cI cJ cS q_t q_t_kindOf q_t_comes q_t_wants q_t_runs q_t_readKind q_t_readComes q_t_readWants q_t_queueNow q_t_servedAt q_t_comesWas q_t_readingOf q_t_readingAt q_t_sheetSize q_t_sheetLane q_t_sheet q_t_hands t_fault t_persons t_law t_bellSet y5 t_readLaw t_readMany t_queueMany t_servedNow t_doneAt t_readings t_whichMany t_whichOne t_whichTwo t_traceNow t_readKind t_readComes t_readWants t_sheet) H := hP
    have hD : va_D A (w_Mo_readsDay cI cJ cS q_t q_t_kindOf q_t_comes q_t_wants q_t_runs q_t_readKind q_t_readComes q_t_readWants q_t_queueNow q_t_servedAt q_t_comesWas q_t_readingOf q_t_readingAt q_t_sheetSize q_t_sheetLane q_t_sheet q_t_hands t_fault t_persons t_law t_bellSet y5 t_readLaw t_readMany t_queueMany t_servedNow t_doneAt t_readings t_whichMany t_whichOne t_whichTwo t_traceNow t_readKind t_readComes t_readWants t_sheet) := hD
    refine lv_aload_n hx hb dX9_readsDay_45 rfl (lv_at hl 0 rfl) ?_
    refine lv_iload_n hx hb dX9_readsDay_46 rfl (lv_at hl 3 rfl) ?_
    refine lv_if_eq (tgt := 61) hx hb dX9_readsDay_47 (by decide) (fun c6 => ?_) (fun c6 => ?_)
    · have hM := (o_if hM).1 c6
      refine lv_bipush (v := (-9)) hx hb dX9_readsDay_61 (by decide) ?_
      exact J63 (-9) y5 t_readLaw t_readMany t_readKind t_readComes t_readWants hM _ _ hP hD hS _ (lv_sub hl [0, 1, 2] rfl)
    · have hM := (o_if hM).2 c6
      refine lv_aload_n hx hb dX9_readsDay_50 rfl (lv_at hl 0 rfl) ?_
      refine lv_iload_n hx hb dX9_readsDay_51 rfl (lv_at hl 1 rfl) ?_
      refine lv_iload_n hx hb dX9_readsDay_52 rfl (lv_at hl 2 rfl) ?_
      refine lv_iconst (v := 0) hx hb dX9_readsDay_53 (by decide) ?_
      refine lv_iconst (v := 2) hx hb dX9_readsDay_54 (by decide) ?_
      obtain ⟨y17, h18, hM⟩ := o_bd hM
      refine af_i (ws2 := (w_Mo_readsDay cI cJ cS q_t q_t_kindOf q_t_comes q_t_wants q_t_runs q_t_readKind q_t_readComes q_t_readWants q_t_queueNow q_t_servedAt q_t_comesWas q_t_readingOf q_t_readingAt q_t_sheetSize q_t_sheetLane q_t_sheet q_t_hands t_fault t_persons t_law t_bellSet y17.2 t_readLaw t_readMany t_queueMany t_servedNow t_doneAt t_readings t_whichMany t_whichOne t_whichTwo t_traceNow t_readKind t_readComes t_readWants t_sheet)) (va_runV (As := [.int p_from, .int p_n, .int 0, .int 2]) (rest := [.ref q_t]) ⟨hx, hb, hml, hown, hts⟩ (c_Mo_figure l D cI cJ cS q_t q_t_kindOf q_t_comes q_t_wants q_t_runs q_t_readKind q_t_readComes q_t_readWants q_t_queueNow q_t_servedAt q_t_comesWas q_t_readingOf q_t_readingAt q_t_sheetSize q_t_sheetLane q_t_sheet q_t_hands t_fault t_persons t_law t_bellSet y5 t_readLaw t_readMany t_queueMany t_servedNow t_doneAt t_readings t_whichMany t_whichOne t_whichTwo t_traceNow t_sheet p_from p_n 0 2 y17 h18 _) (cwV 4 hts gX9_readsDay_X9_figure rfl rfl rfl (by decide +kernel) ⟨(Nat.le_of_ble_eq_true rfl), (Nat.le_of_ble_eq_true rfl)⟩) (pre_V hK hP hD [0, 4] rfl rfl rfl rfl) rfl rfl hl.1 rfl (lv_room (Nat.le_of_ble_eq_true rfl)) dX9_readsDay_55 ⟨Nat.zero_le _, Nat.zero_le _⟩) hP hD hS hA [0, 4] [1, 2, 3] [3, 0, 1, 2, 4] rfl rfl rfl (by decide) rfl rfl (fun H locs hP hD hS => ?_)
      refine lv_goto (tgt := 63) hx hb dX9_readsDay_58 (by decide) ?_
      exact J63 y17.1 y17.2 t_readLaw t_readMany t_readKind t_readComes t_readWants hM _ _ hP hD hS _ (lv_sub hl [0, 1, 2] rfl)
  have J26 : ∀ (s0 : Int32) (t_readAt : Int32) (t_readLaw : Int32) (t_readMany : Int32) (t_readKind : Nat → Int32) (t_readComes : Nat → Int32) (t_readWants : Nat → Int32), Mo_readsDay_j26 p_from p_n t_sheet s0 t_readAt t_readLaw t_readMany t_readKind t_readComes t_readWants = some o → ∀ (H : Heap) (locs : List Loc), va_P D vwCl (w_Mo_readsDay cI cJ cS q_t q_t_kindOf q_t_comes q_t_wants q_t_runs q_t_readKind q_t_readComes q_t_readWants q_t_queueNow q_t_servedAt q_t_comesWas q_t_readingOf q_t_readingAt q_t_sheetSize q_t_sheetLane q_t_sheet q_t_hands t_fault t_persons t_law t_bellSet t_readAt t_readLaw t_readMany t_queueMany t_servedNow t_doneAt t_readings t_whichMany t_whichOne t_whichTwo t_traceNow t_readKind t_readComes t_readWants t_sheet) H → va_D A (w_Mo_readsDay cI cJ cS q_t q_t_kindOf q_t_comes q_t_wants q_t_runs q_t_readKind q_t_readComes q_t_readWants q_t_queueNow q_t_servedAt q_t_comesWas q_t_readingOf q_t_readingAt q_t_sheetSize q_t_sheetLane q_t_sheet q_t_hands t_fault t_persons t_law t_bellSet t_readAt t_readLaw t_readMany t_queueMany t_servedNow t_doneAt t_readings t_whichMany t_whichOne t_whichTwo t_traceNow t_readKind t_readComes t_readWants t_sheet) → va_S A s.heap H locs → ∀ ls : Array Slot, lv_has ls 4 [(0, .ref q_t), (1, .int p_from), (2, .int p_n)] → W p l e (headSpec wsX9_readsDay rm_Mo_readsDay).room s m args below meth c H locs 0 0 (MQ below (CQi D (w_Mo_readsDay cI cJ cS q_t q_t_kindOf q_t_comes q_t_wants q_t_runs q_t_readKind q_t_readComes q_t_readWants q_t_queueNow q_t_servedAt q_t_comesWas q_t_readingOf q_t_readingAt q_t_sheetSize q_t_sheetLane q_t_sheet q_t_hands t_fault t_persons t_law t_bellSet o.2.1 o.2.2.1 o.2.2.2.1 t_queueMany t_servedNow t_doneAt t_readings t_whichMany t_whichOne t_whichTwo t_traceNow o.2.2.2.2.1 o.2.2.2.2.2.1 o.2.2.2.2.2.2 t_sheet) A o.1) args s 0 0 A) (F0 m 26 ls [.int s0]) := by
    intro s0 t_readAt t_readLaw t_readMany t_readKind t_readComes t_readWants hM H locs hP hD hS ls hl
    unfold Mo_readsDay_j26 at hM
    refine lv_istore_n (lv' := [(3, .int s0), (0, .ref q_t), (1, .int p_from), (2, .int p_n)]) hx hb dX9_readsDay_26 rfl hl (Nat.le_of_ble_eq_true rfl) rfl (fun ls hl => ?_)
    refine lv_aload_n hx hb dX9_readsDay_27 rfl (lv_at hl 1 rfl) ?_
    refine lv_dup hx hb dX9_readsDay_28 rfl ?_
    refine va_get (ci := 8) (v := .int t_readAt) (C := RX9) (T := TX9) (N := 31) hx hb hts iX9 hown hK.1 hP 0 rfl rfl 8 (Nat.le_of_ble_eq_true rfl) k0 (fun _ h9 => h9) rfl dX9_readsDay_29 ?_
    refine lv_iload_n hx hb dX9_readsDay_32 rfl (lv_at hl 0 rfl) ?_
    refine lv_if_eq (tgt := 40) hx hb dX9_readsDay_33 (by decide) (fun c4 => ?_) (fun c4 => ?_)
    · have hM := (o_if hM).1 c4
      refine lv_iconst (v := 0) hx hb dX9_readsDay_40 (by decide) ?_
      exact J41 s0 t_readAt 0 t_readAt t_readLaw t_readMany t_readKind t_readComes t_readWants hM _ _ hP hD hS _ (lv_sub hl [1, 2, 3, 0] rfl)
    · have hM := (o_if hM).2 c4
      refine lv_iconst (v := 1) hx hb dX9_readsDay_36 (by decide) ?_
      refine lv_goto (tgt := 41) hx hb dX9_readsDay_37 (by decide) ?_
      exact J41 s0 t_readAt 1 t_readAt t_readLaw t_readMany t_readKind t_readComes t_readWants hM _ _ hP hD hS _ (lv_sub hl [1, 2, 3, 0] rfl)
  unfold Mo_readsDay at hM
  refine lv_aload_n hx hb dX9_readsDay_0 rfl (lv_at hl 0 rfl) ?_
  refine lv_iconst (v := 0) hx hb dX9_readsDay_1 (by decide) ?_
  refine va_put (ci := 8) (v := .int 0) (ty := .int) (C := RX9) (T := TX9) (N := 31) hx hb hts iX9 tyX9 tyX9_ok nmX9 hown hK.1 hP hD hS 0 rfl rfl 8 (Nat.le_of_ble_eq_true rfl) k0 (fun _ h9 => h9) rfl (tyX9_ok 8 (Nat.le_of_ble_eq_true rfl)) rfl rfl (Nat.le_of_ble_eq_true rfl) dX9_readsDay_2 (fun H locs hP hD hS => ?_)
  have hP : va_P D vwCl (w_Mo_readsDay cI cJ cS q_t q_t_kindOf q_t_comes q_t_wants q_t_runs q_t_readKind q_t_readComes q_t_readWants q_t_queueNow q_t_servedAt q_t_comesWas q_t_readingOf q_t_readingAt q_t_sheetSize q_t_sheetLane q_t_sheet q_t_hands t_fault t_persons t_law t_bellSet 0 t_readLaw t_readMany t_queueMany t_servedNow t_doneAt t_readings t_whichMany t_whichOne t_whichTwo t_traceNow t_readKind t_readComes t_readWants t_sheet) H := hP
  have hD : va_D A (w_Mo_readsDay cI cJ cS q_t q_t_kindOf q_t_comes q_t_wants q_t_runs q_t_readKind q_t_readComes q_t_readWants q_t_queueNow q_t_servedAt q_t_comesWas q_t_readingOf q_t_readingAt q_t_sheetSize q_t_sheetLane q_t_sheet q_t_hands t_fault t_persons t_law t_bellSet 0 t_readLaw t_readMany t_queueMany t_servedNow t_doneAt t_readings t_whichMany t_whichOne t_whichTwo t_traceNow t_readKind t_readComes t_readWants t_sheet) := hD
  refine lv_aload_n hx hb dX9_readsDay_5 rfl (lv_at hl 0 rfl) ?_
  refine lv_iconst (v := 0) hx hb dX9_readsDay_6 (by decide) ?_
  refine va_put (ci := 8) (v := .int 0) (ty := .int) (C := RX9) (T := TX9) (N := 31) hx hb hts iX9 tyX9 tyX9_ok nmX9 hown hK.1 hP hD hS 0 rfl rfl 10 (Nat.le_of_ble_eq_true rfl) k1 (fun _ h9 => h9) rfl (tyX9_ok 10 (Nat.le_of_ble_eq_true rfl)) rfl rfl (Nat.le_of_ble_eq_true rfl) dX9_readsDay_7 (fun H locs hP hD hS => ?_)
  have hP : va_P D vwCl (w_Mo_readsDay cI cJ cS q_t q_t_kindOf q_t_comes q_t_wants q_t_runs q_t_readKind q_t_readComes q_t_readWants q_t_queueNow q_t_servedAt q_t_comesWas q_t_readingOf q_t_readingAt q_t_sheetSize q_t_sheetLane q_t_sheet q_t_hands t_fault t_persons t_law t_bellSet 0 t_readLaw 0 t_queueMany t_servedNow t_doneAt t_readings t_whichMany t_whichOne t_whichTwo t_traceNow t_readKind t_readComes t_readWants t_sheet) H := hP
  have hD : va_D A (w_Mo_readsDay cI cJ cS q_t q_t_kindOf q_t_comes q_t_wants q_t_runs q_t_readKind q_t_readComes q_t_readWants q_t_queueNow q_t_servedAt q_t_comesWas q_t_readingOf q_t_readingAt q_t_sheetSize q_t_sheetLane q_t_sheet q_t_hands t_fault t_persons t_law t_bellSet 0 t_readLaw 0 t_queueMany t_servedNow t_doneAt t_readings t_whichMany t_whichOne t_whichTwo t_traceNow t_readKind t_readComes t_readWants t_sheet) := hD
  refine lv_aload_n hx hb dX9_readsDay_10 rfl (lv_at hl 0 rfl) ?_
  refine lv_iload_n hx hb dX9_readsDay_11 rfl (lv_at hl 1 rfl) ?_
  refine lv_iload_n hx hb dX9_readsDay_12 rfl (lv_at hl 2 rfl) ?_
  obtain ⟨y1, h2, hM⟩ := o_bd hM
  refine af_i (ws2 := (w_Mo_readsDay cI cJ cS q_t q_t_kindOf q_t_comes q_t_wants q_t_runs q_t_readKind q_t_readComes q_t_readWants q_t_queueNow q_t_servedAt q_t_comesWas q_t_readingOf q_t_readingAt q_t_sheetSize q_t_sheetLane q_t_sheet q_t_hands t_fault t_persons t_law t_bellSet 0 t_readLaw 0 t_queueMany t_servedNow t_doneAt t_readings t_whichMany t_whichOne t_whichTwo t_traceNow t_readKind t_readComes t_readWants t_sheet)) (va_runV (As := [.int p_from, .int p_n]) (rest := []) ⟨hx, hb, hml, hown, hts⟩ (c_Mo_codeAt l D cI cJ cS q_t q_t_kindOf q_t_comes q_t_wants q_t_runs q_t_readKind q_t_readComes q_t_readWants q_t_queueNow q_t_servedAt q_t_comesWas q_t_readingOf q_t_readingAt q_t_sheetSize q_t_sheetLane q_t_sheet q_t_hands t_fault t_persons t_law t_bellSet 0 t_readLaw 0 t_queueMany t_servedNow t_doneAt t_readings t_whichMany t_whichOne t_whichTwo t_traceNow t_sheet p_from p_n y1 h2 _) (cwV 2 hts gX9_readsDay_X9_codeAt rfl rfl rfl (by decide +kernel) ⟨(Nat.le_of_ble_eq_true rfl), (Nat.le_of_ble_eq_true rfl)⟩) (pre_V hK hP hD [0, 4] rfl rfl rfl rfl) rfl rfl hl.1 rfl (lv_room (Nat.le_of_ble_eq_true rfl)) dX9_readsDay_13 ⟨Nat.zero_le _, Nat.zero_le _⟩) hP hD hS hA [0, 4] [1, 2, 3] [3, 0, 1, 2, 4] rfl rfl rfl (by decide) rfl rfl (fun H locs hP hD hS => ?_)
  refine lv_bipush (v := 100) hx hb dX9_readsDay_16 (by decide) ?_
  refine lv_icmp_ne (tgt := 25) hx hb dX9_readsDay_18 (by decide) (fun c3 => ?_) (fun c3 => ?_)
  · have hM := (o_if hM).2 c3
    refine lv_iconst (v := 0) hx hb dX9_readsDay_25 (by decide) ?_
    exact J26 0 0 t_readLaw 0 t_readKind t_readComes t_readWants hM _ _ hP hD hS _ (lv_sub hl [0, 1, 2] rfl)
  · have hM := (o_if hM).1 c3
    refine lv_iconst (v := 1) hx hb dX9_readsDay_21 (by decide) ?_
    refine lv_goto (tgt := 26) hx hb dX9_readsDay_22 (by decide) ?_
    exact J26 1 0 t_readLaw 0 t_readKind t_readComes t_readWants hM _ _ hP hD hS _ (lv_sub hl [0, 1, 2] rfl)
/-! ===== TurnQueueModel.noSheet ===== -/
abbrev w_Mo_noSheet (cI cJ cS : ClassId) : va_W := []
abbrev rm_Mo_noSheet : Room := { frames := 1, cells := 0, slots := 0, locals := 25 }
noncomputable def Mo_noSheet (p_k : Int32) : Option (Int32) :=
  (Mo_in p_k.toInt64 0 3).bind fun y1 =>
  if y1 = 0 then
    some 1
  else
    some 0
set_option maxRecDepth 100000 in
set_option maxHeartbeats 4000000 in
theorem c_Mo_noSheet (l : Launch) (D : va_G) (cI cJ cS : ClassId) (p_k : Int32) (o : Int32) (hM : Mo_noSheet p_k = some o) : Ci l yX9_noSheet wsX9_noSheet rm_Mo_noSheet D cI cJ cS [.int p_k] (w_Mo_noSheet cI cJ cS) (w_Mo_noSheet cI cJ cS) o := by
  refine Ci.of (cc := cX9_noSheet) (maxL := 1) (ret := (some .boolean)) (by decide) rfl (Nat.le_of_ble_eq_true rfl) ?_
  intro p e s m args below meth c A ls hE
  obtain ⟨hx, hb, hr, hml, hown, hts, hlocks, hK, hA, hP, hD, hS, hl⟩ := hE
  have hown : s.vm.findClass RX9 = some m.cls := hown
  have hl : lv_has ls 1 [(0, .int p_k)] := hl
  have k0 := hts (.constantLong RX9 225 (3)) (by decide +kernel)
  unfold Mo_noSheet at hM
  refine lv_iload_n hx hb dX9_noSheet_0 rfl (lv_at hl 0 rfl) ?_
  refine lv_i2l (v := p_k.toInt64) hx hb dX9_noSheet_1 rfl ?_
  refine lv_lconst (v := 0) hx hb dX9_noSheet_2 (by decide) ?_
  refine lv_ldc2 (v := 3) hx hb hown k0 dX9_noSheet_3 ?_
  obtain ⟨y1, h2, hM⟩ := o_bd hM
  refine af_i (ws2 := (w_Mo_noSheet cI cJ cS)) (va_runS (As := [.long p_k.toInt64, .long 0, .long 3]) (rest := []) ⟨hx, hb, hml, hown, hts⟩ (c_Mo_in l D cI cJ cS p_k.toInt64 0 3 y1 h2 _) (va_cwS 3 hts gX9_noSheet_X9_in rfl rfl rfl (by decide +kernel) ⟨(Nat.le_of_ble_eq_true rfl), (Nat.le_of_ble_eq_true rfl)⟩) (pre_S hK hP hD [] rfl rfl) rfl rfl hl.1 rfl (lv_room (Nat.le_of_ble_eq_true rfl)) dX9_noSheet_6 ⟨Nat.zero_le _, Nat.zero_le _⟩) hP hD hS hA [] [] [] rfl rfl rfl (by decide) rfl rfl (fun H locs hP hD hS => ?_)
  refine lv_if_ne (tgt := 16) hx hb dX9_noSheet_9 (by decide) (fun c3 => ?_) (fun c3 => ?_)
  · have hM := (o_if hM).2 c3
    refine lv_iconst (v := 0) hx hb dX9_noSheet_16 (by decide) ?_
    have hM := (Option.some.inj hM)
    subst hM
    exact rt_z hx hb hr hlocks hP hD hS (show narrow .boolean (.int 0) = .int 0 from rfl) dX9_noSheet_17
  · have hM := (o_if hM).1 c3
    refine lv_iconst (v := 1) hx hb dX9_noSheet_12 (by decide) ?_
    refine lv_goto (tgt := 17) hx hb dX9_noSheet_13 (by decide) ?_
    have hM := (Option.some.inj hM)
    subst hM
    exact rt_z hx hb hr hlocks hP hD hS (show narrow .boolean (.int 1) = .int 1 from rfl) dX9_noSheet_17
/-! ===== TurnQueueModel.isBeyond ===== -/
abbrev w_Mo_isBeyond (cI cJ cS : ClassId) : va_W := []
abbrev rm_Mo_isBeyond : Room := { frames := 0, cells := 0, slots := 0, locals := 0 }
noncomputable def Mo_isBeyond (p_i : Int32) (p_n : Int64) (p_all : Int32) : Option (Int32) :=
  if p_i < 0 then
    some 1
  else
    if (lg_cmp p_n 0) < 0 then
      some 1
    else
      if (lg_cmp (p_i.toInt64 + p_n) p_all.toInt64) ≤ 0 then
        some 0
      else
        some 1
set_option maxRecDepth 100000 in
set_option maxHeartbeats 4000000 in
theorem c_Mo_isBeyond (l : Launch) (D : va_G) (cI cJ cS : ClassId) (p_i : Int32) (p_n : Int64) (p_all : Int32) (o : Int32) (hM : Mo_isBeyond p_i p_n p_all = some o) : Ci l yX9_isBeyond wsX9_isBeyond rm_Mo_isBeyond D cI cJ cS [.int p_i, .long p_n, .int p_all] (w_Mo_isBeyond cI cJ cS) (w_Mo_isBeyond cI cJ cS) o := by
  refine Ci.of (cc := cX9_isBeyond) (maxL := 4) (ret := (some .boolean)) (by decide) rfl (Nat.le_of_ble_eq_true rfl) ?_
  intro p e s m args below meth c A ls hE
  obtain ⟨hx, hb, hr, hml, hown, hts, hlocks, hK, hA, hP, hD, hS, hl⟩ := hE
  have hown : s.vm.findClass RX9 = some m.cls := hown
  have hl : lv_has ls 4 [(0, .int p_i), (1, .long p_n), (3, .int p_all)] := hl
  unfold Mo_isBeyond at hM
  refine lv_iload_n hx hb dX9_isBeyond_0 rfl (lv_at hl 0 rfl) ?_
  refine lv_if_lt (tgt := 20) hx hb dX9_isBeyond_1 (by decide) (fun c1 => ?_) (fun c1 => ?_)
  · have hM := (o_if hM).1 c1
    refine lv_iconst (v := 1) hx hb dX9_isBeyond_20 (by decide) ?_
    refine lv_goto (tgt := 25) hx hb dX9_isBeyond_21 (by decide) ?_
    have hM := (Option.some.inj hM)
    subst hM
    exact rt_z hx hb hr hlocks hP hD hS (show narrow .boolean (.int 1) = .int 1 from rfl) dX9_isBeyond_25
  · have hM := (o_if hM).2 c1
    refine lv_lload_n hx hb dX9_isBeyond_4 rfl (lv_at hl 1 rfl) ?_
    refine lv_lconst (v := 0) hx hb dX9_isBeyond_5 (by decide) ?_
    refine W.lcmp hx hb dX9_isBeyond_6 ?_
    refine lv_if_lt (tgt := 20) hx hb dX9_isBeyond_7 (by decide) (fun c2 => ?_) (fun c2 => ?_)
    · have hM := (o_if hM).1 c2
      refine lv_iconst (v := 1) hx hb dX9_isBeyond_20 (by decide) ?_
      refine lv_goto (tgt := 25) hx hb dX9_isBeyond_21 (by decide) ?_
      have hM := (Option.some.inj hM)
      subst hM
      exact rt_z hx hb hr hlocks hP hD hS (show narrow .boolean (.int 1) = .int 1 from rfl) dX9_isBeyond_25
    · have hM := (o_if hM).2 c2
      refine lv_iload_n hx hb dX9_isBeyond_10 rfl (lv_at hl 0 rfl) ?_
      refine lv_i2l (v := p_i.toInt64) hx hb dX9_isBeyond_11 rfl ?_
      refine lv_lload_n hx hb dX9_isBeyond_12 rfl (lv_at hl 1 rfl) ?_
      refine lv_ladd hx hb dX9_isBeyond_13 ?_
      refine lv_iload_n hx hb dX9_isBeyond_14 rfl (lv_at hl 2 rfl) ?_
      refine lv_i2l (v := p_all.toInt64) hx hb dX9_isBeyond_15 rfl ?_
      refine W.lcmp hx hb dX9_isBeyond_16 ?_
      refine lv_if_le (tgt := 24) hx hb dX9_isBeyond_17 (by decide) (fun c3 => ?_) (fun c3 => ?_)
      · have hM := (o_if hM).1 c3
        refine lv_iconst (v := 0) hx hb dX9_isBeyond_24 (by decide) ?_
        have hM := (Option.some.inj hM)
        subst hM
        exact rt_z hx hb hr hlocks hP hD hS (show narrow .boolean (.int 0) = .int 0 from rfl) dX9_isBeyond_25
      · have hM := (o_if hM).2 c3
        refine lv_iconst (v := 1) hx hb dX9_isBeyond_20 (by decide) ?_
        refine lv_goto (tgt := 25) hx hb dX9_isBeyond_21 (by decide) ?_
        have hM := (Option.some.inj hM)
        subst hM
        exact rt_z hx hb hr hlocks hP hD hS (show narrow .boolean (.int 1) = .int 1 from rfl) dX9_isBeyond_25
/-! ===== TurnQueueModel.day ===== -/
abbrev w_Mo_day (cI cJ cS : ClassId) (q_t : Nat) (q_t_kindOf : Nat) (q_t_comes : Nat) (q_t_wants : Nat) (q_t_runs : Nat) (q_t_readKind : Nat) (q_t_readComes : Nat) (q_t_readWants : Nat) (q_t_queueNow : Nat) (q_t_servedAt : Nat) (q_t_comesWas : Nat) (q_t_readingOf : Nat) (q_t_readingAt : Nat) (q_t_sheetSize : Nat) (q_t_sheetLane : Nat) (q_t_sheet : Nat) (q_t_hands : Nat) (t_fault : Int32) (t_persons : Int32) (t_law : Int32) (t_bellSet : Int64) (t_readAt : Int32) (t_readLaw : Int32) (t_readMany : Int32) (t_queueMany : Int32) (t_servedNow : Int32) (t_doneAt : Int32) (t_readings : Int32) (t_whichMany : Int32) (t_whichOne : Int32) (t_whichTwo : Int32) (t_traceNow : Int32) (t_kindOf : Nat → Int32) (t_comes : Nat → Int32) (t_wants : Nat → Int32) (t_runs : Nat → Int32) (t_readKind : Nat → Int32) (t_readComes : Nat → Int32) (t_readWants : Nat → Int32) (t_sheetSize : Nat → Int32) (t_sheetLane : Nat → Int32) (t_sheet : Nat → Int32) : va_W := [(q_t, .inr (8, [.int t_fault, .int t_persons, .int t_law, .ref q_t_kindOf, .ref q_t_comes, .ref q_t_wants, .ref q_t_runs, .long t_bellSet, .int t_readAt, .int t_readLaw, .int t_readMany, .ref q_t_readKind, .ref q_t_readComes, .ref q_t_readWants, .ref q_t_queueNow, .int t_queueMany, .int t_servedNow, .int t_doneAt, .ref q_t_servedAt, .ref q_t_comesWas, .int t_readings, .ref q_t_readingOf, .ref q_t_readingAt, .int t_whichMany, .int t_whichOne, .int t_whichTwo, .ref q_t_sheetSize, .ref q_t_sheetLane, .ref q_t_sheet, .ref q_t_hands, .int t_traceNow])), (q_t_kindOf, ar cI 7 t_kindOf), (q_t_comes, ar cI 7 t_comes), (q_t_wants, ar cI 7 t_wants), (q_t_runs, ar cI 7 t_runs), (q_t_readKind, ar cI 7 t_readKind), (q_t_readComes, ar cI 7 t_readComes), (q_t_readWants, ar cI 7 t_readWants), (q_t_sheetSize, ar cI 4 t_sheetSize), (q_t_sheetLane, ar cI 4 t_sheetLane), (q_t_sheet, ar cI 240 t_sheet)]
abbrev rm_Mo_day : Room := { frames := 4, cells := 0, slots := 0, locals := 100 }
noncomputable def Mo_day_j217 (p_k : Int32) (p_lane : Int32) (p_i : Int32) (p_n : Int32) (t_sheetSize : Nat → Int32) (t_sheetLane : Nat → Int32) (t_sheet : Nat → Int32) (t_fault : Int32) (t_persons : Int32) (t_law : Int32) (t_bellSet : Int64) (t_readAt : Int32) (t_readLaw : Int32) (t_readMany : Int32) (t_readings : Int32) (t_kindOf : Nat → Int32) (t_comes : Nat → Int32) (t_wants : Nat → Int32) (t_runs : Nat → Int32) (t_readKind : Nat → Int32) (t_readComes : Nat → Int32) (t_readWants : Nat → Int32) : Option (Int32 × Int32 × Int32 × Int32 × Int64 × Int32 × Int32 × Int32 × Int32 × (Nat → Int32) × (Nat → Int32) × (Nat → Int32) × (Nat → Int32) × (Nat → Int32) × (Nat → Int32) × (Nat → Int32)) :=
  (Mo_refused t_persons t_fault).bind fun y20 =>
  some (y20.1, y20.2, t_persons, t_law, 0, t_readAt, t_readLaw, t_readMany, 0, t_kindOf, t_comes, t_wants, t_runs, t_readKind, t_readComes, t_readWants)
noncomputable def Mo_day_b151 (p_k : Int32) (p_lane : Int32) (p_i : Int32) (p_n : Int32) (t_sheetSize : Nat → Int32) (t_sheetLane : Nat → Int32) (t_sheet : Nat → Int32) (x5 : Int32) (t_fault : Int32) (t_persons : Int32) (t_law : Int32) (t_bellSet : Int64) (t_readAt : Int32) (t_readLaw : Int32) (t_readMany : Int32) (t_readings : Int32) (t_kindOf : Nat → Int32) (t_comes : Nat → Int32) (t_wants : Nat → Int32) (t_runs : Nat → Int32) (t_readKind : Nat → Int32) (t_readComes : Nat → Int32) (t_readWants : Nat → Int32) : Option ((Int32 × Int32 × Int32 × Int32 × Int64 × Int32 × Int32 × Int32 × Int32 × (Nat → Int32) × (Nat → Int32) × (Nat → Int32) × (Nat → Int32) × (Nat → Int32) × (Nat → Int32) × (Nat → Int32)) ⊕ (Int32 × Int32 × Int32 × Int32 × Int64 × Int32 × Int32 × Int32 × Int32 × (Nat → Int32) × (Nat → Int32) × (Nat → Int32) × (Nat → Int32) × (Nat → Int32) × (Nat → Int32) × (Nat → Int32))) :=
  if t_persons ≤ x5 then
    ex (Mo_day_j217 p_k p_lane p_i p_n t_sheetSize t_sheetLane t_sheet t_fault t_persons t_law t_bellSet t_readAt t_readLaw t_readMany t_readings t_kindOf t_comes t_wants t_runs t_readKind t_readComes t_readWants)
  else
    if ck x5 7 = true then
      lt (t_readKind x5.toNatClampNeg) fun y23 =>
      if ck x5 7 = true then
        if ck x5 7 = true then
          lt (t_readComes x5.toNatClampNeg) fun y26 =>
          if ck x5 7 = true then
            if ck x5 7 = true then
              lt (t_readWants x5.toNatClampNeg) fun y29 =>
              if ck x5 7 = true then
                if ck x5 7 = true then
                  lt (x5 + 1) fun y32 =>
                  some (.inl (y32, t_fault, t_persons, t_law, t_bellSet, t_readAt, t_readLaw, t_readMany, t_readings, upd t_kindOf x5.toNatClampNeg y23, upd t_comes x5.toNatClampNeg y26, upd t_wants x5.toNatClampNeg y29, upd t_runs x5.toNatClampNeg (-9), t_readKind, t_readComes, t_readWants))
                else none
              else none
            else none
          else none
        else none
      else none
    else none
noncomputable def Mo_day_s151 (p_k : Int32) (p_lane : Int32) (p_i : Int32) (p_n : Int32) (t_sheetSize : Nat → Int32) (t_sheetLane : Nat → Int32) (t_sheet : Nat → Int32) : (Int32 × Int32 × Int32 × Int32 × Int64 × Int32 × Int32 × Int32 × Int32 × (Nat → Int32) × (Nat → Int32) × (Nat → Int32) × (Nat → Int32) × (Nat → Int32) × (Nat → Int32) × (Nat → Int32)) → Option ((Int32 × Int32 × Int32 × Int32 × Int64 × Int32 × Int32 × Int32 × Int32 × (Nat → Int32) × (Nat → Int32) × (Nat → Int32) × (Nat → Int32) × (Nat → Int32) × (Nat → Int32) × (Nat → Int32)) ⊕ (Int32 × Int32 × Int32 × Int32 × Int64 × Int32 × Int32 × Int32 × Int32 × (Nat → Int32) × (Nat → Int32) × (Nat → Int32) × (Nat → Int32) × (Nat → Int32) × (Nat → Int32) × (Nat → Int32))) := fun x => Mo_day_b151 p_k p_lane p_i p_n t_sheetSize t_sheetLane t_sheet x.1 x.2.1 x.2.2.1 x.2.2.2.1 x.2.2.2.2.1 x.2.2.2.2.2.1 x.2.2.2.2.2.2.1 x.2.2.2.2.2.2.2.1 x.2.2.2.2.2.2.2.2.1 x.2.2.2.2.2.2.2.2.2.1 x.2.2.2.2.2.2.2.2.2.2.1 x.2.2.2.2.2.2.2.2.2.2.2.1 x.2.2.2.2.2.2.2.2.2.2.2.2.1 x.2.2.2.2.2.2.2.2.2.2.2.2.2.1 x.2.2.2.2.2.2.2.2.2.2.2.2.2.2.1 x.2.2.2.2.2.2.2.2.2.2.2.2.2.2.2
noncomputable def Mo_day_l151 (p_k : Int32) (p_lane : Int32) (p_i : Int32) (p_n : Int32) (t_sheetSize : Nat → Int32) (t_sheetLane : Nat → Int32) (t_sheet : Nat → Int32) (x5 : Int32) (t_fault : Int32) (t_persons : Int32) (t_law : Int32) (t_bellSet : Int64) (t_readAt : Int32) (t_readLaw : Int32) (t_readMany : Int32) (t_readings : Int32) (t_kindOf : Nat → Int32) (t_comes : Nat → Int32) (t_wants : Nat → Int32) (t_runs : Nat → Int32) (t_readKind : Nat → Int32) (t_readComes : Nat → Int32) (t_readWants : Nat → Int32) : Option (Int32 × Int32 × Int32 × Int32 × Int64 × Int32 × Int32 × Int32 × Int32 × (Nat → Int32) × (Nat → Int32) × (Nat → Int32) × (Nat → Int32) × (Nat → Int32) × (Nat → Int32) × (Nat → Int32)) := fin (Mo_day_s151 p_k p_lane p_i p_n t_sheetSize t_sheetLane t_sheet) (x5, t_fault, t_persons, t_law, t_bellSet, t_readAt, t_readLaw, t_readMany, t_readings, t_kindOf, t_comes, t_wants, t_runs, t_readKind, t_readComes, t_readWants)
noncomputable def Mo_day_j57 (p_k : Int32) (p_lane : Int32) (p_i : Int32) (p_n : Int32) (t_sheetSize : Nat → Int32) (t_sheetLane : Nat → Int32) (t_sheet : Nat → Int32) (t_fault : Int32) (t_persons : Int32) (t_law : Int32) (t_bellSet : Int64) (t_readAt : Int32) (t_readLaw : Int32) (t_readMany : Int32) (t_readings : Int32) (t_kindOf : Nat → Int32) (t_comes : Nat → Int32) (t_wants : Nat → Int32) (t_runs : Nat → Int32) (t_readKind : Nat → Int32) (t_readComes : Nat → Int32) (t_readWants : Nat → Int32) : Option (Int32 × Int32 × Int32 × Int32 × Int64 × Int32 × Int32 × Int32 × Int32 × (Nat → Int32) × (Nat → Int32) × (Nat → Int32) × (Nat → Int32) × (Nat → Int32) × (Nat → Int32) × (Nat → Int32)) :=
  if ck p_k 4 = true then
    if 0 ≤ (t_sheetSize p_k.toNatClampNeg) then
      if 0 ≤ p_n then
        if ck p_k 4 = true then
          (Mo_isBeyond p_i p_n.toInt64 (t_sheetSize p_k.toNatClampNeg)).bind fun y13 =>
          if y13 = 0 then
            (Mo_readsDay ((60 * p_k) + p_i) p_n t_sheet t_readAt t_readLaw t_readMany t_readKind t_readComes t_readWants).bind fun y16 =>
            if y16.1 = 0 then
              (Mo_refused ((-100) - y16.2.1) t_fault).bind fun y33 =>
              some (y33.1, y33.2, t_persons, t_law, t_bellSet, y16.2.1, y16.2.2.1, y16.2.2.2.1, t_readings, t_kindOf, t_comes, t_wants, t_runs, y16.2.2.2.2.1, y16.2.2.2.2.2.1, y16.2.2.2.2.2.2)
            else
              Mo_day_l151 p_k p_lane p_i p_n t_sheetSize t_sheetLane t_sheet 0 t_fault y16.2.2.2.1 y16.2.2.1 t_bellSet y16.2.1 y16.2.2.1 y16.2.2.2.1 t_readings t_kindOf t_comes t_wants t_runs y16.2.2.2.2.1 y16.2.2.2.2.2.1 y16.2.2.2.2.2.2
          else
            (Mo_failed 3 t_fault).bind fun y35 =>
            some (y35.1, y35.2, t_persons, t_law, t_bellSet, t_readAt, t_readLaw, t_readMany, t_readings, t_kindOf, t_comes, t_wants, t_runs, t_readKind, t_readComes, t_readWants)
        else none
      else
        (Mo_failed 4 t_fault).bind fun y37 =>
        some (y37.1, y37.2, t_persons, t_law, t_bellSet, t_readAt, t_readLaw, t_readMany, t_readings, t_kindOf, t_comes, t_wants, t_runs, t_readKind, t_readComes, t_readWants)
    else
      (Mo_failed 1 t_fault).bind fun y39 =>
      some (y39.1, y39.2, t_persons, t_law, t_bellSet, t_readAt, t_readLaw, t_readMany, t_readings, t_kindOf, t_comes, t_wants, t_runs, t_readKind, t_readComes, t_readWants)
  else none
noncomputable def Mo_day (p_k : Int32) (p_lane : Int32) (p_i : Int32) (p_n : Int32) (t_sheetSize : Nat → Int32) (t_sheetLane : Nat → Int32) (t_sheet : Nat → Int32) (t_fault : Int32) (t_persons : Int32) (t_law : Int32) (t_bellSet : Int64) (t_readAt : Int32) (t_readLaw : Int32) (t_readMany : Int32) (t_readings : Int32) (t_kindOf : Nat → Int32) (t_comes : Nat → Int32) (t_wants : Nat → Int32) (t_runs : Nat → Int32) (t_readKind : Nat → Int32) (t_readComes : Nat → Int32) (t_readWants : Nat → Int32) : Option (Int32 × Int32 × Int32 × Int32 × Int64 × Int32 × Int32 × Int32 × Int32 × (Nat → Int32) × (Nat → Int32) × (Nat → Int32) × (Nat → Int32) × (Nat → Int32) × (Nat → Int32) × (Nat → Int32)) :=
  (Mo_noSheet p_k).bind fun y1 =>
  if y1 = 0 then
    (Mo_in p_lane.toInt64 0 2).bind fun y4 =>
    if y4 = 0 then
      (Mo_refused (-2) t_fault).bind fun y45 =>
      some (y45.1, y45.2, t_persons, t_law, t_bellSet, t_readAt, t_readLaw, t_readMany, t_readings, t_kindOf, t_comes, t_wants, t_runs, t_readKind, t_readComes, t_readWants)
    else
      if ck p_k 4 = true then
        if (t_sheetSize p_k.toNatClampNeg) < 0 then
          Mo_day_j57 p_k p_lane p_i p_n t_sheetSize t_sheetLane t_sheet t_fault t_persons t_law t_bellSet t_readAt t_readLaw t_readMany t_readings t_kindOf t_comes t_wants t_runs t_readKind t_readComes t_readWants
        else
          if ck p_k 4 = true then
            if (t_sheetLane p_k.toNatClampNeg) = p_lane then
              Mo_day_j57 p_k p_lane p_i p_n t_sheetSize t_sheetLane t_sheet t_fault t_persons t_law t_bellSet t_readAt t_readLaw t_readMany t_readings t_kindOf t_comes t_wants t_runs t_readKind t_readComes t_readWants
            else
              (Mo_failed 2 t_fault).bind fun y43 =>
              some (y43.1, y43.2, t_persons, t_law, t_bellSet, t_readAt, t_readLaw, t_readMany, t_readings, t_kindOf, t_comes, t_wants, t_runs, t_readKind, t_readComes, t_readWants)
          else none
      else none
  else
    (Mo_refused (-1) t_fault).bind fun y47 =>
    some (y47.1, y47.2, t_persons, t_law, t_bellSet, t_readAt, t_readLaw, t_readMany, t_readings, t_kindOf, t_comes, t_wants, t_runs, t_readKind, t_readComes, t_readWants)
theorem Mo_day_l151_eq (p_k : Int32) (p_lane : Int32) (p_i : Int32) (p_n : Int32) (t_sheetSize : Nat → Int32) (t_sheetLane : Nat → Int32) (t_sheet : Nat → Int32) (x5 : Int32) (t_fault : Int32) (t_persons : Int32) (t_law : Int32) (t_bellSet : Int64) (t_readAt : Int32) (t_readLaw : Int32) (t_readMany : Int32) (t_readings : Int32) (t_kindOf : Nat → Int32) (t_comes : Nat → Int32) (t_wants : Nat → Int32) (t_runs : Nat → Int32) (t_readKind : Nat → Int32) (t_readComes : Nat → Int32) (t_readWants : Nat → Int32) : Mo_day_l151 p_k p_lane p_i p_n t_sheetSize t_sheetLane t_sheet x5 t_fault t_persons t_law t_bellSet t_readAt t_readLaw t_readMany t_readings t_kindOf t_comes t_wants t_runs t_readKind t_readComes t_readWants = (Mo_day_b151 p_k p_lane p_i p_n t_sheetSize t_sheetLane t_sheet x5 t_fault t_persons t_law t_bellSet t_readAt t_readLaw t_readMany t_readings t_kindOf t_comes t_wants t_runs t_readKind t_readComes t_readWants).bind (sg (fin (Mo_day_s151 p_k p_lane p_i p_n t_sheetSize t_sheetLane t_sheet))) := by
  unfold Mo_day_l151
  exact fin_eq _ _
theorem Mo_day_l151_fd (p_k : Int32) (p_lane : Int32) (p_i : Int32) (p_n : Int32) (t_sheetSize : Nat → Int32) (t_sheetLane : Nat → Int32) (t_sheet : Nat → Int32) (x5 : Int32) (t_fault : Int32) (t_persons : Int32) (t_law : Int32) (t_bellSet : Int64) (t_readAt : Int32) (t_readLaw : Int32) (t_readMany : Int32) (t_readings : Int32) (t_kindOf : Nat → Int32) (t_comes : Nat → Int32) (t_wants : Nat → Int32) (t_runs : Nat → Int32) (t_readKind : Nat → Int32) (t_readComes : Nat → Int32) (t_readWants : Nat → Int32) : fin (Mo_day_s151 p_k p_lane p_i p_n t_sheetSize t_sheetLane t_sheet) (x5, t_fault, t_persons, t_law, t_bellSet, t_readAt, t_readLaw, t_readMany, t_readings, t_kindOf, t_comes, t_wants, t_runs, t_readKind, t_readComes, t_readWants) = Mo_day_l151 p_k p_lane p_i p_n t_sheetSize t_sheetLane t_sheet x5 t_fault t_persons t_law t_bellSet t_readAt t_readLaw t_readMany t_readings t_kindOf t_comes t_wants t_runs t_readKind t_readComes t_readWants := rfl
set_option maxRecDepth 100000 in
set_option maxHeartbeats 4000000 in
theorem c_Mo_day (l : Launch) (D : va_G) (cI cJ cS : ClassId) (q_t q_t_kindOf q_t_comes q_t_wants q_t_runs q_t_readKind q_t_readComes q_t_readWants q_t_queueNow q_t_servedAt q_t_comesWas q_t_readingOf q_t_readingAt q_t_sheetSize q_t_sheetLane q_t_sheet q_t_hands : Nat) (t_fault : Int32) (t_persons : Int32) (t_law : Int32) (t_bellSet : Int64) (t_readAt : Int32) (t_readLaw : Int32) (t_readMany : Int32) (t_queueMany : Int32) (t_servedNow : Int32) (t_doneAt : Int32) (t_readings : Int32) (t_whichMany : Int32) (t_whichOne : Int32) (t_whichTwo : Int32) (t_traceNow : Int32) (t_kindOf : Nat → Int32) (t_comes : Nat → Int32) (t_wants : Nat → Int32) (t_runs : Nat → Int32) (t_readKind : Nat → Int32) (t_readComes : Nat → Int32) (t_readWants : Nat → Int32) (t_sheetSize : Nat → Int32) (t_sheetLane : Nat → Int32) (t_sheet : Nat → Int32) (p_k : Int32) (p_lane : Int32) (p_i : Int32) (p_n : Int32) (o : Int32 × Int32 × Int32 × Int32 × Int64 × Int32 × Int32 × Int32 × Int32 × (Nat → Int32) × (Nat → Int32) × (Nat → Int32) × (Nat → Int32) × (Nat → Int32) × (Nat → Int32) × (Nat → Int32)) (hM : Mo_day p_k p_lane p_i p_n t_sheetSize t_sheetLane t_sheet t_fault t_persons t_law t_bellSet t_readAt t_readLaw t_readMany t_readings t_kindOf t_comes t_wants t_runs t_readKind t_readComes t_readWants = some o) : Ci l yX9_day wsX9_day rm_Mo_day D cI cJ cS [.ref q_t, .int p_k, .int p_lane, .int p_i, .int p_n] (w_Mo_day cI cJ cS q_t q_t_kindOf q_t_comes q_t_wants q_t_runs q_t_readKind q_t_readComes q_t_readWants q_t_queueNow q_t_servedAt q_t_comesWas q_t_readingOf q_t_readingAt q_t_sheetSize q_t_sheetLane q_t_sheet q_t_hands t_fault t_persons t_law t_bellSet t_readAt t_readLaw t_readMany t_queueMany t_servedNow t_doneAt t_readings t_whichMany t_whichOne t_whichTwo t_traceNow t_kindOf t_comes t_wants t_runs t_readKind t_readComes t_readWants t_sheetSize t_sheetLane t_sheet) (w_Mo_day cI cJ cS q_t q_t_kindOf q_t_comes q_t_wants q_t_runs q_t_readKind q_t_readComes q_t_readWants q_t_queueNow q_t_servedAt q_t_comesWas q_t_readingOf q_t_readingAt q_t_sheetSize q_t_sheetLane q_t_sheet q_t_hands o.2.1 o.2.2.1 o.2.2.2.1 o.2.2.2.2.1 o.2.2.2.2.2.1 o.2.2.2.2.2.2.1 o.2.2.2.2.2.2.2.1 t_queueMany t_servedNow t_doneAt o.2.2.2.2.2.2.2.2.1 t_whichMany t_whichOne t_whichTwo t_traceNow o.2.2.2.2.2.2.2.2.2.1 o.2.2.2.2.2.2.2.2.2.2.1 o.2.2.2.2.2.2.2.2.2.2.2.1 o.2.2.2.2.2.2.2.2.2.2.2.2.1 o.2.2.2.2.2.2.2.2.2.2.2.2.2.1 o.2.2.2.2.2.2.2.2.2.2.2.2.2.2.1 o.2.2.2.2.2.2.2.2.2.2.2.2.2.2.2 t_sheetSize t_sheetLane t_sheet) o.1 := by
  refine Ci.of (cc := cX9_day) (maxL := 6) (ret := (some .int)) (by decide) rfl (Nat.le_of_ble_eq_true rfl) ?_
  intro p e s m args below meth c A ls hE
  obtain ⟨hx, hb, hr, hml, hown, hts, hlocks, hK, hA, hP, hD, hS, hl⟩ := hE
  have hown : s.vm.findClass RX9 = some m.cls := hown
  have hl : lv_has ls 6 [(0, .ref q_t), (1, .int p_k), (2, .int p_lane), (3, .int p_i), (4, .int p_n)] := hl
  have iX9 : ∀ w ∈ u_ws RX9 TX9 31, w ∈ wsX9_day := by decide +kernel
  have k0 := hts (.constantLong RX9 106 (2)) (by decide +kernel)
  have k1 := hts (.fieldLink RX9 46 "TurnQueueModel" "sheetSize" "[I") (by decide +kernel)
  have k2 := hts (.fieldLink RX9 91 "TurnQueueModel" "readLaw" "I") (by decide +kernel)
  have k3 := hts (.fieldLink RX9 118 "TurnQueueModel" "law" "I") (by decide +kernel)
  have k4 := hts (.fieldLink RX9 84 "TurnQueueModel" "readMany" "I") (by decide +kernel)
  have k5 := hts (.fieldLink RX9 68 "TurnQueueModel" "persons" "I") (by decide +kernel)
  have k6 := hts (.fieldLink RX9 121 "TurnQueueModel" "bellSet" "J") (by decide +kernel)
  have k7 := hts (.fieldLink RX9 125 "TurnQueueModel" "readings" "I") (by decide +kernel)
  have k8 := hts (.fieldLink RX9 7 "TurnQueueModel" "kindOf" "[I") (by decide +kernel)
  have k9 := hts (.fieldLink RX9 22 "TurnQueueModel" "readKind" "[I") (by decide +kernel)
  have k10 := hts (.fieldLink RX9 13 "TurnQueueModel" "comes" "[I") (by decide +kernel)
  have k11 := hts (.fieldLink RX9 25 "TurnQueueModel" "readComes" "[I") (by decide +kernel)
  have k12 := hts (.fieldLink RX9 16 "TurnQueueModel" "wants" "[I") (by decide +kernel)
  have k13 := hts (.fieldLink RX9 28 "TurnQueueModel" "readWants" "[I") (by decide +kernel)
  have k14 := hts (.fieldLink RX9 19 "TurnQueueModel" "runs" "[I") (by decide +kernel)
  have k15 := hts (.fieldLink RX9 77 "TurnQueueModel" "readAt" "I") (by decide +kernel)
  have k16 := hts (.fieldLink RX9 49 "TurnQueueModel" "sheetLane" "[I") (by decide +kernel)
  have J217 : ∀ (t_fault : Int32) (t_persons : Int32) (t_law : Int32) (t_bellSet : Int64) (t_readAt : Int32) (t_readLaw : Int32) (t_readMany : Int32) (t_readings : Int32) (t_kindOf : Nat → Int32) (t_comes : Nat → Int32) (t_wants : Nat → Int32) (t_runs : Nat → Int32) (t_readKind : Nat → Int32) (t_readComes : Nat → Int32) (t_readWants : Nat → Int32), Mo_day_j217 p_k p_lane p_i p_n t_sheetSize t_sheetLane t_sheet t_fault t_persons t_law t_bellSet t_readAt t_readLaw t_readMany t_readings t_kindOf t_comes t_wants t_runs t_readKind t_readComes t_readWants = some o → ∀ (H : Heap) (locs : List Loc), va_P D vwCl (w_Mo_day cI cJ cS q_t q_t_kindOf q_t_comes q_t_wants q_t_runs q_t_readKind q_t_readComes q_t_readWants q_t_queueNow q_t_servedAt q_t_comesWas q_t_readingOf q_t_readingAt q_t_sheetSize q_t_sheetLane q_t_sheet q_t_hands t_fault t_persons t_law t_bellSet t_readAt t_readLaw t_readMany t_queueMany t_servedNow t_doneAt t_readings t_whichMany t_whichOne t_whichTwo t_traceNow t_kindOf t_comes t_wants t_runs t_readKind t_readComes t_readWants t_sheetSize t_sheetLane t_sheet) H → va_D A (w_Mo_day cI cJ cS q_t q_t_kindOf q_t_comes q_t_wants q_t_runs q_t_readKind q_t_readComes q_t_readWants q_t_queueNow q_t_servedAt q_t_comesWas q_t_readingOf q_t_readingAt q_t_sheetSize q_t_sheetLane q_t_sheet q_t_hands t_fault t_persons t_law t_bellSet t_readAt t_readLaw t_readMany t_queueMany t_servedNow t_doneAt t_readings t_whichMany t_whichOne t_whichTwo t_traceNow t_kindOf t_comes t_wants t_runs t_readKind t_readComes t_readWants t_sheetSize t_sheetLane t_sheet) → va_S A s.heap H locs → ∀ ls : Array Slot, lv_has ls 6 [(0, .ref q_t)] → W p l e (headSpec wsX9_day rm_Mo_day).room s m args below meth c H locs 0 0 (MQ below (CQi D (w_Mo_day cI cJ cS q_t q_t_kindOf q_t_comes q_t_wants q_t_runs q_t_readKind q_t_readComes q_t_readWants q_t_queueNow q_t_servedAt q_t_comesWas q_t_readingOf q_t_readingAt q_t_sheetSize q_t_sheetLane q_t_sheet q_t_hands o.2.1 o.2.2.1 o.2.2.2.1 o.2.2.2.2.1 o.2.2.2.2.2.1 o.2.2.2.2.2.2.1 o.2.2.2.2.2.2.2.1 t_queueMany t_servedNow t_doneAt o.2.2.2.2.2.2.2.2.1 t_whichMany t_whichOne t_whichTwo t_traceNow o.2.2.2.2.2.2.2.2.2.1 o.2.2.2.2.2.2.2.2.2.2.1 o.2.2.2.2.2.2.2.2.2.2.2.1 o.2.2.2.2.2.2.2.2.2.2.2.2.1 o.2.2.2.2.2.2.2.2.2.2.2.2.2.1 o.2.2.2.2.2.2.2.2.2.2.2.2.2.2.1 o.2.2.2.2.2.2.2.2.2.2.2.2.2.2.2 t_sheetSize t_sheetLane t_sheet) A o.1) args s 0 0 A) (F0 m 217 ls []) := by
    intro t_fault t_persons t_law t_bellSet t_readAt t_readLaw t_readMany t_readings t_kindOf t_comes t_wants t_runs t_readKind t_readComes t_readWants hM H locs hP hD hS ls hl
    unfold Mo_day_j217 at hM
    refine lv_aload_n hx hb dX9_day_217 rfl (lv_at hl 0 rfl) ?_
    refine lv_lconst (v := 0) hx hb dX9_day_218 (by decide) ?_
    refine va_put (ci := 8) (v := .long 0) (ty := .long) (C := RX9) (T := TX9) (N := 31) hx hb hts iX9 tyX9 tyX9_ok nmX9 hown hK.1 hP hD hS 0 rfl rfl 7 (Nat.le_of_ble_eq_true rfl) k6 (fun _ h9 => h9) rfl (tyX9_ok 7 (Nat.le_of_ble_eq_true rfl)) rfl rfl (Nat.le_of_ble_eq_true rfl) dX9_day_219 (fun H locs hP hD hS => ?_)
    have hP : va_P D vwCl (w_Mo_day cI cJ cS q_t q_t_kindOf q_t_comes q_t_wants q_t_runs q_t_readKind q_t_readComes q_t_readWants q_t_queueNow q_t_servedAt q_t_comesWas q_t_readingOf q_t_readingAt q_t_sheetSize q_t_sheetLane q_t_sheet q_t_hands t_fault t_persons t_law 0 t_readAt t_readLaw t_readMany t_queueMany t_servedNow t_doneAt t_readings t_whichMany t_whichOne t_whichTwo t_traceNow t_kindOf t_comes t_wants t_runs t_readKind t_readComes t_readWants t_sheetSize t_sheetLane t_sheet) H := hP
    have hD : va_D A (w_Mo_day cI cJ cS q_t q_t_kindOf q_t_comes q_t_wants q_t_runs q_t_readKind q_t_readComes q_t_readWants q_t_queueNow q_t_servedAt q_t_comesWas q_t_readingOf q_t_readingAt q_t_sheetSize q_t_sheetLane q_t_sheet q_t_hands t_fault t_persons t_law 0 t_readAt t_readLaw t_readMany t_queueMany t_servedNow t_doneAt t_readings t_whichMany t_whichOne t_whichTwo t_traceNow t_kindOf t_comes t_wants t_runs t_readKind t_readComes t_readWants t_sheetSize t_sheetLane t_sheet) := hD
    refine lv_aload_n hx hb dX9_day_222 rfl (lv_at hl 0 rfl) ?_
    refine lv_iconst (v := 0) hx hb dX9_day_223 (by decide) ?_
    refine va_put (ci := 8) (v := .int 0) (ty := .int) (C := RX9) (T := TX9) (N := 31) hx hb hts iX9 tyX9 tyX9_ok nmX9 hown hK.1 hP hD hS 0 rfl rfl 20 (Nat.le_of_ble_eq_true rfl) k7 (fun _ h9 => h9) rfl (tyX9_ok 20 (Nat.le_of_ble_eq_true rfl)) rfl rfl (Nat.le_of_ble_eq_true rfl) dX9_day_224 (fun H locs hP hD hS => ?_)
    have hP : va_P D vwCl (w_Mo_day cI cJ cS q_t q_t_kindOf q_t_comes q_t_wants q_t_runs q_t_readKind q_t_readComes q_t_readWants q_t_queueNow q_t_servedAt q_t_comesWas q_t_readingOf q_t_readingAt q_t_sheetSize q_t_sheetLane q_t_sheet q_t_hands t_fault t_persons t_law 0 t_readAt t_readLaw t_readMany t_queueMany t_servedNow t_doneAt 0 t_whichMany t_whichOne t_whichTwo t_traceNow t_kindOf t_comes t_wants t_runs t_readKind t_readComes t_readWants t_sheetSize t_sheetLane t_sheet) H := hP
    have hD : va_D A (w_Mo_day cI cJ cS q_t q_t_kindOf q_t_comes q_t_wants q_t_runs q_t_readKind q_t_readComes q_t_readWants q_t_queueNow q_t_servedAt q_t_comesWas q_t_readingOf q_t_readingAt q_t_sheetSize q_t_sheetLane q_t_sheet q_t_hands t_fault t_persons t_law 0 t_readAt t_readLaw t_readMany t_queueMany t_servedNow t_doneAt 0 t_whichMany t_whichOne t_whichTwo t_traceNow t_kindOf t_comes t_wants t_runs t_readKind t_readComes t_readWants t_sheetSize t_sheetLane t_sheet) := hD
    refine lv_aload_n hx hb dX9_day_227 rfl (lv_at hl 0 rfl) ?_
    refine lv_aload_n hx hb dX9_day_228 rfl (lv_at hl 0 rfl) ?_
    refine va_get (ci := 8) (v := .int t_persons) (C := RX9) (T := TX9) (N := 31) hx hb hts iX9 hown hK.1 hP 0 rfl rfl 1 (Nat.le_of_ble_eq_true rfl) k5 (fun _ h9 => h9) rfl dX9_day_229 ?_
    obtain ⟨y20, h21, hM⟩ := o_bd hM
    refine af_i (ws2 := (w_Mo_day cI cJ cS q_t q_t_kindOf q_t_comes q_t_wants q_t_runs q_t_readKind q_t_readComes q_t_readWants q_t_queueNow q_t_servedAt q_t_comesWas q_t_readingOf q_t_readingAt q_t_sheetSize q_t_sheetLane q_t_sheet q_t_hands y20.2 t_persons t_law 0 t_readAt t_readLaw t_readMany t_queueMany t_servedNow t_doneAt 0 t_whichMany t_whichOne t_whichTwo t_traceNow t_kindOf t_comes t_wants t_runs t_readKind t_readComes t_readWants t_sheetSize t_sheetLane t_sheet)) (va_runV (As := [.int t_persons]) (rest := []) ⟨hx, hb, hml, hown, hts⟩ (c_Mo_refused l D cI cJ cS q_t q_t_kindOf q_t_comes q_t_wants q_t_runs q_t_readKind q_t_readComes q_t_readWants q_t_queueNow q_t_servedAt q_t_comesWas q_t_readingOf q_t_readingAt q_t_sheetSize q_t_sheetLane q_t_sheet q_t_hands t_fault t_persons t_law 0 t_readAt t_readLaw t_readMany t_queueMany t_servedNow t_doneAt 0 t_whichMany t_whichOne t_whichTwo t_traceNow t_persons y20 h21 _) (cwV 1 hts gX9_day_X9_refused rfl rfl rfl (by decide +kernel) ⟨(Nat.le_of_ble_eq_true rfl), (Nat.le_of_ble_eq_true rfl)⟩) (pre_V hK hP hD [0] rfl rfl rfl rfl) rfl rfl hl.1 rfl (lv_room (Nat.le_of_ble_eq_true rfl)) dX9_day_232 ⟨Nat.zero_le _, Nat.zero_le _⟩) hP hD hS hA [0] [1, 2, 3, 4, 5, 6, 7, 8, 9, 10] [10, 0, 1, 2, 3, 4, 5, 6, 7, 8, 9] rfl rfl rfl (by decide) rfl rfl (fun H locs hP hD hS => ?_)
    have hM := (Option.some.inj hM)
    subst hM
    exact rt_i hx hb hr hlocks hP hD hS dX9_day_235
  have L151 : ∀ n : Nat, (∀ (x5 : Int32) (t_fault : Int32) (t_persons : Int32) (t_law : Int32) (t_bellSet : Int64) (t_readAt : Int32) (t_readLaw : Int32) (t_readMany : Int32) (t_readings : Int32) (t_kindOf : Nat → Int32) (t_comes : Nat → Int32) (t_wants : Nat → Int32) (t_runs : Nat → Int32) (t_readKind : Nat → Int32) (t_readComes : Nat → Int32) (t_readWants : Nat → Int32), itr (Mo_day_s151 p_k p_lane p_i p_n t_sheetSize t_sheetLane t_sheet) n (x5, t_fault, t_persons, t_law, t_bellSet, t_readAt, t_readLaw, t_readMany, t_readings, t_kindOf, t_comes, t_wants, t_runs, t_readKind, t_readComes, t_readWants) = some o → ∀ (H : Heap) (locs : List Loc), va_P D vwCl (w_Mo_day cI cJ cS q_t q_t_kindOf q_t_comes q_t_wants q_t_runs q_t_readKind q_t_readComes q_t_readWants q_t_queueNow q_t_servedAt q_t_comesWas q_t_readingOf q_t_readingAt q_t_sheetSize q_t_sheetLane q_t_sheet q_t_hands t_fault t_persons t_law t_bellSet t_readAt t_readLaw t_readMany t_queueMany t_servedNow t_doneAt t_readings t_whichMany t_whichOne t_whichTwo t_traceNow t_kindOf t_comes t_wants t_runs t_readKind t_readComes t_readWants t_sheetSize t_sheetLane t_sheet) H → va_D A (w_Mo_day cI cJ cS q_t q_t_kindOf q_t_comes q_t_wants q_t_runs q_t_readKind q_t_readComes q_t_readWants q_t_queueNow q_t_servedAt q_t_comesWas q_t_readingOf q_t_readingAt q_t_sheetSize q_t_sheetLane q_t_sheet q_t_hands t_fault t_persons t_law t_bellSet t_readAt t_readLaw t_readMany t_queueMany t_servedNow t_doneAt t_readings t_whichMany t_whichOne t_whichTwo t_traceNow t_kindOf t_comes t_wants t_runs t_readKind t_readComes t_readWants t_sheetSize t_sheetLane t_sheet) → va_S A s.heap H locs → ∀ ls : Array Slot, lv_has ls 6 [(0, .ref q_t), (5, .int x5)] → W p l e (headSpec wsX9_day rm_Mo_day).room s m args below meth c H locs 0 0 (MQ below (CQi D (w_Mo_day cI cJ cS q_t q_t_kindOf q_t_comes q_t_wants q_t_runs q_t_readKind q_t_readComes q_t_readWants q_t_queueNow q_t_servedAt q_t_comesWas q_t_readingOf q_t_readingAt q_t_sheetSize q_t_sheetLane q_t_sheet q_t_hands o.2.1 o.2.2.1 o.2.2.2.1 o.2.2.2.2.1 o.2.2.2.2.2.1 o.2.2.2.2.2.2.1 o.2.2.2.2.2.2.2.1 t_queueMany t_servedNow t_doneAt o.2.2.2.2.2.2.2.2.1 t_whichMany t_whichOne t_whichTwo t_traceNow o.2.2.2.2.2.2.2.2.2.1 o.2.2.2.2.2.2.2.2.2.2.1 o.2.2.2.2.2.2.2.2.2.2.2.1 o.2.2.2.2.2.2.2.2.2.2.2.2.1 o.2.2.2.2.2.2.2.2.2.2.2.2.2.1 o.2.2.2.2.2.2.2.2.2.2.2.2.2.2.1 o.2.2.2.2.2.2.2.2.2.2.2.2.2.2.2 t_sheetSize t_sheetLane t_sheet) A o.1) args s 0 0 A) (F0 m 151 ls [])) := by
    intro n
    induction n with
    | zero => exact fun _ _ _ _ _ _ _ _ _ _ _ _ _ _ _ _ hM => (itr_0 hM).elim
    | succ n ih =>
      intro x5 t_fault t_persons t_law t_bellSet t_readAt t_readLaw t_readMany t_readings t_kindOf t_comes t_wants t_runs t_readKind t_readComes t_readWants hM H locs hP hD hS ls hl
      have hM : (Mo_day_b151 p_k p_lane p_i p_n t_sheetSize t_sheetLane t_sheet x5 t_fault t_persons t_law t_bellSet t_readAt t_readLaw t_readMany t_readings t_kindOf t_comes t_wants t_runs t_readKind t_readComes t_readWants).bind (sg (itr (Mo_day_s151 p_k p_lane p_i p_n t_sheetSize t_sheetLane t_sheet) n)) = some o := hM
      unfold Mo_day_b151 at hM
      refine lv_iload hx hb dX9_day_151 (lv_at hl 1 rfl) ?_
      refine lv_aload_n hx hb dX9_day_153 rfl (lv_at hl 0 rfl) ?_
      refine va_get (ci := 8) (v := .int t_persons) (C := RX9) (T := TX9) (N := 31) hx hb hts iX9 hown hK.1 hP 0 rfl rfl 1 (Nat.le_of_ble_eq_true rfl) k5 (fun _ h9 => h9) rfl dX9_day_154 ?_
      refine lv_icmp_ge (tgt := 217) hx hb dX9_day_157 (by decide) (fun c19 => ?_) (fun c19 => ?_)
      · have hM := (s_if hM).1 c19
        exact J217 t_fault t_persons t_law t_bellSet t_readAt t_readLaw t_readMany t_readings t_kindOf t_comes t_wants t_runs t_readKind t_readComes t_readWants (s_ex hM) _ _ hP hD hS _ (lv_sub hl [0] rfl)
      · have hM := (s_if hM).2 c19
        refine lv_aload_n hx hb dX9_day_160 rfl (lv_at hl 0 rfl) ?_
        refine va_get (ci := 8) (v := .ref q_t_kindOf) (C := RX9) (T := TX9) (N := 31) hx hb hts iX9 hown hK.1 hP 0 rfl rfl 3 (Nat.le_of_ble_eq_true rfl) k8 (fun _ h9 => h9) rfl dX9_day_161 ?_
        refine lv_iload hx hb dX9_day_164 (lv_at hl 1 rfl) ?_
        refine lv_aload_n hx hb dX9_day_166 rfl (lv_at hl 0 rfl) ?_
        refine va_get (ci := 8) (v := .ref q_t_readKind) (C := RX9) (T := TX9) (N := 31) hx hb hts iX9 hown hK.1 hP 0 rfl rfl 11 (Nat.le_of_ble_eq_true rfl) k9 (fun _ h9 => h9) rfl dX9_day_167 ?_
        refine lv_iload hx hb dX9_day_170 (lv_at hl 1 rfl) ?_
        obtain ⟨h22, hM⟩ := s_ck hM
        refine va_iald hx hb hK.1 hP 5 0 rfl rfl h22 dX9_day_172 ?_
        refine lv_topi (fun y23 ey23 => ?_)
        have hM := s_lt hM y23 ey23
        obtain ⟨h24, hM⟩ := s_ck hM
        refine va_iast hx hb hK.1 hP hD hS 1 0 rfl rfl h24 dX9_day_173 (fun H locs hP hD hS => ?_)
        have hP : va_P D vwCl (w_Mo_day cI cJ cS q_t q_t_kindOf q_t_comes q_t_wants q_t_runs q_t_readKind q_t_readComes q_t_readWants q_t_queueNow q_t_servedAt q_t_comesWas q_t_readingOf q_t_readingAt q_t_sheetSize q_t_sheetLane q_t_sheet q_t_hands t_fault t_persons t_law t_bellSet t_readAt t_readLaw t_readMany t_queueMany t_servedNow t_doneAt t_readings t_whichMany t_whichOne t_whichTwo t_traceNow (upd t_kindOf x5.toNatClampNeg y23) t_comes t_wants t_runs t_readKind t_readComes t_readWants t_sheetSize t_sheetLane t_sheet) H := hP
        have hD : va_D A (w_Mo_day cI cJ cS q_t q_t_kindOf q_t_comes q_t_wants q_t_runs q_t_readKind q_t_readComes q_t_readWants q_t_queueNow q_t_servedAt q_t_comesWas q_t_readingOf q_t_readingAt q_t_sheetSize q_t_sheetLane q_t_sheet q_t_hands t_fault t_persons t_law t_bellSet t_readAt t_readLaw t_readMany t_queueMany t_servedNow t_doneAt t_readings t_whichMany t_whichOne t_whichTwo t_traceNow (upd t_kindOf x5.toNatClampNeg y23) t_comes t_wants t_runs t_readKind t_readComes t_readWants t_sheetSize t_sheetLane t_sheet) := hD
        refine lv_aload_n hx hb dX9_day_174 rfl (lv_at hl 0 rfl) ?_
        refine va_get (ci := 8) (v := .ref q_t_comes) (C := RX9) (T := TX9) (N := 31) hx hb hts iX9 hown hK.1 hP 0 rfl rfl 4 (Nat.le_of_ble_eq_true rfl) k10 (fun _ h9 => h9) rfl dX9_day_175 ?_
        refine lv_iload hx hb dX9_day_178 (lv_at hl 1 rfl) ?_
        refine lv_aload_n hx hb dX9_day_180 rfl (lv_at hl 0 rfl) ?_
        refine va_get (ci := 8) (v := .ref q_t_readComes) (C := RX9) (T := TX9) (N := 31) hx hb hts iX9 hown hK.1 hP 0 rfl rfl 12 (Nat.le_of_ble_eq_true rfl) k11 (fun _ h9 => h9) rfl dX9_day_181 ?_
        refine lv_iload hx hb dX9_day_184 (lv_at hl 1 rfl) ?_
        obtain ⟨h25, hM⟩ := s_ck hM
        refine va_iald hx hb hK.1 hP 6 0 rfl rfl h25 dX9_day_186 ?_
        refine lv_topi (fun y26 ey26 => ?_)
        have hM := s_lt hM y26 ey26
        obtain ⟨h27, hM⟩ := s_ck hM
        refine va_iast hx hb hK.1 hP hD hS 2 0 rfl rfl h27 dX9_day_187 (fun H locs hP hD hS => ?_)
        have hP : va_P D vwCl (w_Mo_day cI cJ cS q_t q_t_kindOf q_t_comes q_t_wants q_t_runs q_t_readKind q_t_readComes q_t_readWants q_t_queueNow q_t_servedAt q_t_comesWas q_t_readingOf q_t_readingAt q_t_sheetSize q_t_sheetLane q_t_sheet q_t_hands t_fault t_persons t_law t_bellSet t_readAt t_readLaw t_readMany t_queueMany t_servedNow t_doneAt t_readings t_whichMany t_whichOne t_whichTwo t_traceNow (upd t_kindOf x5.toNatClampNeg y23) (upd t_comes x5.toNatClampNeg y26) t_wants t_runs t_readKind t_readComes t_readWants t_sheetSize t_sheetLane t_sheet) H := hP
        have hD : va_D A (w_Mo_day cI cJ cS q_t q_t_kindOf q_t_comes q_t_wants q_t_runs q_t_readKind q_t_readComes q_t_readWants q_t_queueNow q_t_servedAt q_t_comesWas q_t_readingOf q_t_readingAt q_t_sheetSize q_t_sheetLane q_t_sheet q_t_hands t_fault t_persons t_law t_bellSet t_readAt t_readLaw t_readMany t_queueMany t_servedNow t_doneAt t_readings t_whichMany t_whichOne t_whichTwo t_traceNow (upd t_kindOf x5.toNatClampNeg y23) (upd t_comes x5.toNatClampNeg y26) t_wants t_runs t_readKind t_readComes t_readWants t_sheetSize t_sheetLane t_sheet) := hD
        refine lv_aload_n hx hb dX9_day_188 rfl (lv_at hl 0 rfl) ?_
        refine va_get (ci := 8) (v := .ref q_t_wants) (C := RX9) (T := TX9) (N := 31) hx hb hts iX9 hown hK.1 hP 0 rfl rfl 5 (Nat.le_of_ble_eq_true rfl) k12 (fun _ h9 => h9) rfl dX9_day_189 ?_
        refine lv_iload hx hb dX9_day_192 (lv_at hl 1 rfl) ?_
        refine lv_aload_n hx hb dX9_day_194 rfl (lv_at hl 0 rfl) ?_
        refine va_get (ci := 8) (v := .ref q_t_readWants) (C := RX9) (T := TX9) (N := 31) hx hb hts iX9 hown hK.1 hP 0 rfl rfl 13 (Nat.le_of_ble_eq_true rfl) k13 (fun _ h9 => h9) rfl dX9_day_195 ?_
        refine lv_iload hx hb dX9_day_198 (lv_at hl 1 rfl) ?_
        obtain ⟨h28, hM⟩ := s_ck hM
        refine va_iald hx hb hK.1 hP 7 0 rfl rfl h28 dX9_day_200 ?_
        refine lv_topi (fun y29 ey29 => ?_)
        have hM := s_lt hM y29 ey29
        obtain ⟨h30, hM⟩ := s_ck hM
        refine va_iast hx hb hK.1 hP hD hS 3 0 rfl rfl h30 dX9_day_201 (fun H locs hP hD hS => ?_)
        have hP : va_P D vwCl (w_Mo_day cI cJ cS q_t q_t_kindOf q_t_comes q_t_wants q_t_runs q_t_readKind q_t_readComes q_t_readWants q_t_queueNow q_t_servedAt q_t_comesWas q_t_readingOf q_t_readingAt q_t_sheetSize q_t_sheetLane q_t_sheet q_t_hands t_fault t_persons t_law t_bellSet t_readAt t_readLaw t_readMany t_queueMany t_servedNow t_doneAt t_readings t_whichMany t_whichOne t_whichTwo t_traceNow (upd t_kindOf x5.toNatClampNeg y23) (upd t_comes x5.toNatClampNeg y26) (upd t_wants x5.toNatClampNeg y29) t_runs t_readKind t_readComes t_readWants t_sheetSize t_sheetLane t_sheet) H := hP
        have hD : va_D A (w_Mo_day cI cJ cS q_t q_t_kindOf q_t_comes q_t_wants q_t_runs q_t_readKind q_t_readComes q_t_readWants q_t_queueNow q_t_servedAt q_t_comesWas q_t_readingOf q_t_readingAt q_t_sheetSize q_t_sheetLane q_t_sheet q_t_hands t_fault t_persons t_law t_bellSet t_readAt t_readLaw t_readMany t_queueMany t_servedNow t_doneAt t_readings t_whichMany t_whichOne t_whichTwo t_traceNow (upd t_kindOf x5.toNatClampNeg y23) (upd t_comes x5.toNatClampNeg y26) (upd t_wants x5.toNatClampNeg y29) t_runs t_readKind t_readComes t_readWants t_sheetSize t_sheetLane t_sheet) := hD
        refine lv_aload_n hx hb dX9_day_202 rfl (lv_at hl 0 rfl) ?_
        refine va_get (ci := 8) (v := .ref q_t_runs) (C := RX9) (T := TX9) (N := 31) hx hb hts iX9 hown hK.1 hP 0 rfl rfl 6 (Nat.le_of_ble_eq_true rfl) k14 (fun _ h9 => h9) rfl dX9_day_203 ?_
        refine lv_iload hx hb dX9_day_206 (lv_at hl 1 rfl) ?_
        refine lv_bipush (v := (-9)) hx hb dX9_day_208 (by decide) ?_
        obtain ⟨h31, hM⟩ := s_ck hM
        refine va_iast hx hb hK.1 hP hD hS 4 0 rfl rfl h31 dX9_day_210 (fun H locs hP hD hS => ?_)
        have hP : va_P D vwCl (w_Mo_day cI cJ cS q_t q_t_kindOf q_t_comes q_t_wants q_t_runs q_t_readKind q_t_readComes q_t_readWants q_t_queueNow q_t_servedAt q_t_comesWas q_t_readingOf q_t_readingAt q_t_sheetSize q_t_sheetLane q_t_sheet q_t_hands t_fault t_persons t_law t_bellSet t_readAt t_readLaw t_readMany t_queueMany t_servedNow t_doneAt t_readings t_whichMany t_whichOne t_whichTwo t_traceNow (upd t_kindOf x5.toNatClampNeg y23) (upd t_comes x5.toNatClampNeg y26) (upd t_wants x5.toNatClampNeg y29) (upd t_runs x5.toNatClampNeg (-9)) t_readKind t_readComes t_readWants t_sheetSize t_sheetLane t_sheet) H := hP
        have hD : va_D A (w_Mo_day cI cJ cS q_t q_t_kindOf q_t_comes q_t_wants q_t_runs q_t_readKind q_t_readComes q_t_readWants q_t_queueNow q_t_servedAt q_t_comesWas q_t_readingOf q_t_readingAt q_t_sheetSize q_t_sheetLane q_t_sheet q_t_hands t_fault t_persons t_law t_bellSet t_readAt t_readLaw t_readMany t_queueMany t_servedNow t_doneAt t_readings t_whichMany t_whichOne t_whichTwo t_traceNow (upd t_kindOf x5.toNatClampNeg y23) (upd t_comes x5.toNatClampNeg y26) (upd t_wants x5.toNatClampNeg y29) (upd t_runs x5.toNatClampNeg (-9)) t_readKind t_readComes t_readWants t_sheetSize t_sheetLane t_sheet) := hD
        obtain ⟨y32, ey32⟩ : ∃ y : Int32, y = x5 + 1 := ⟨_, rfl⟩
        have hM := s_lt hM y32 ey32
        refine lv_iinc (v := y32) (lv' := [(5, .int y32), (0, .ref q_t)]) hx hb dX9_day_211 hl (k := 1) rfl (by rw [ey32]; rfl) (Nat.le_of_ble_eq_true rfl) rfl (fun ls hl => ?_)
        refine lv_goto (tgt := 151) hx hb dX9_day_214 (by decide) ?_
        exact ih y32 t_fault t_persons t_law t_bellSet t_readAt t_readLaw t_readMany t_readings (upd t_kindOf x5.toNatClampNeg y23) (upd t_comes x5.toNatClampNeg y26) (upd t_wants x5.toNatClampNeg y29) (upd t_runs x5.toNatClampNeg (-9)) t_readKind t_readComes t_readWants (s_jp hM) _ _ hP hD hS _ (lv_sub hl [1, 0] rfl)
  have J151 : ∀ (x5 : Int32) (t_fault : Int32) (t_persons : Int32) (t_law : Int32) (t_bellSet : Int64) (t_readAt : Int32) (t_readLaw : Int32) (t_readMany : Int32) (t_readings : Int32) (t_kindOf : Nat → Int32) (t_comes : Nat → Int32) (t_wants : Nat → Int32) (t_runs : Nat → Int32) (t_readKind : Nat → Int32) (t_readComes : Nat → Int32) (t_readWants : Nat → Int32), Mo_day_l151 p_k p_lane p_i p_n t_sheetSize t_sheetLane t_sheet x5 t_fault t_persons t_law t_bellSet t_readAt t_readLaw t_readMany t_readings t_kindOf t_comes t_wants t_runs t_readKind t_readComes t_readWants = some o → ∀ (H : Heap) (locs : List Loc), va_P D vwCl (w_Mo_day cI cJ cS q_t q_t_kindOf q_t_comes q_t_wants q_t_runs q_t_readKind q_t_readComes q_t_readWants q_t_queueNow q_t_servedAt q_t_comesWas q_t_readingOf q_t_readingAt q_t_sheetSize q_t_sheetLane q_t_sheet q_t_hands t_fault t_persons t_law t_bellSet t_readAt t_readLaw t_readMany t_queueMany t_servedNow t_doneAt t_readings t_whichMany t_whichOne t_whichTwo t_traceNow t_kindOf t_comes t_wants t_runs t_readKind t_readComes t_readWants t_sheetSize t_sheetLane t_sheet) H → va_D A (w_Mo_day cI cJ cS q_t q_t_kindOf q_t_comes q_t_wants q_t_runs q_t_readKind q_t_readComes q_t_readWants q_t_queueNow q_t_servedAt q_t_comesWas q_t_readingOf q_t_readingAt q_t_sheetSize q_t_sheetLane q_t_sheet q_t_hands t_fault t_persons t_law t_bellSet t_readAt t_readLaw t_readMany t_queueMany t_servedNow t_doneAt t_readings t_whichMany t_whichOne t_whichTwo t_traceNow t_kindOf t_comes t_wants t_runs t_readKind t_readComes t_readWants t_sheetSize t_sheetLane t_sheet) → va_S A s.heap H locs → ∀ ls : Array Slot, lv_has ls 6 [(0, .ref q_t), (5, .int x5)] → W p l e (headSpec wsX9_day rm_Mo_day).room s m args below meth c H locs 0 0 (MQ below (CQi D (w_Mo_day cI cJ cS q_t q_t_kindOf q_t_comes q_t_wants q_t_runs q_t_readKind q_t_readComes q_t_readWants q_t_queueNow q_t_servedAt q_t_comesWas q_t_readingOf q_t_readingAt q_t_sheetSize q_t_sheetLane q_t_sheet q_t_hands o.2.1 o.2.2.1 o.2.2.2.1 o.2.2.2.2.1 o.2.2.2.2.2.1 o.2.2.2.2.2.2.1 o.2.2.2.2.2.2.2.1 t_queueMany t_servedNow t_doneAt o.2.2.2.2.2.2.2.2.1 t_whichMany t_whichOne t_whichTwo t_traceNow o.2.2.2.2.2.2.2.2.2.1 o.2.2.2.2.2.2.2.2.2.2.1 o.2.2.2.2.2.2.2.2.2.2.2.1 o.2.2.2.2.2.2.2.2.2.2.2.2.1 o.2.2.2.2.2.2.2.2.2.2.2.2.2.1 o.2.2.2.2.2.2.2.2.2.2.2.2.2.2.1 o.2.2.2.2.2.2.2.2.2.2.2.2.2.2.2 t_sheetSize t_sheetLane t_sheet) A o.1) args s 0 0 A) (F0 m 151 ls []) := by
    intro x5 t_fault t_persons t_law t_bellSet t_readAt t_readLaw t_readMany t_readings t_kindOf t_comes t_wants t_runs t_readKind t_readComes t_readWants hM
    unfold Mo_day_l151 at hM
    obtain ⟨n0, hM⟩ := fin_some hM
    exact (L151 n0) x5 t_fault t_persons t_law t_bellSet t_readAt t_readLaw t_readMany t_readings t_kindOf t_comes t_wants t_runs t_readKind t_readComes t_readWants hM
  have J57 : ∀ (t_fault : Int32) (t_persons : Int32) (t_law : Int32) (t_bellSet : Int64) (t_readAt : Int32) (t_readLaw : Int32) (t_readMany : Int32) (t_readings : Int32) (t_kindOf : Nat → Int32) (t_comes : Nat → Int32) (t_wants : Nat → Int32) (t_runs : Nat → Int32) (t_readKind : Nat → Int32) (t_readComes : Nat → Int32) (t_readWants : Nat → Int32), Mo_day_j57 p_k p_lane p_i p_n t_sheetSize t_sheetLane t_sheet t_fault t_persons t_law t_bellSet t_readAt t_readLaw t_readMany t_readings t_kindOf t_comes t_wants t_runs t_readKind t_readComes t_readWants = some o → ∀ (H : Heap) (locs : List Loc), va_P D vwCl (w_Mo_day cI cJ cS q_t q_t_kindOf q_t_comes q_t_wants q_t_runs q_t_readKind q_t_readComes q_t_readWants q_t_queueNow q_t_servedAt q_t_comesWas q_t_readingOf q_t_readingAt q_t_sheetSize q_t_sheetLane q_t_sheet q_t_hands t_fault t_persons t_law t_bellSet t_readAt t_readLaw t_readMany t_queueMany t_servedNow t_doneAt t_readings t_whichMany t_whichOne t_whichTwo t_traceNow t_kindOf t_comes t_wants t_runs t_readKind t_readComes t_readWants t_sheetSize t_sheetLane t_sheet) H → va_D A (w_Mo_day cI cJ cS q_t q_t_kindOf q_t_comes q_t_wants q_t_runs q_t_readKind q_t_readComes q_t_readWants q_t_queueNow q_t_servedAt q_t_comesWas q_t_readingOf q_t_readingAt q_t_sheetSize q_t_sheetLane q_t_sheet q_t_hands t_fault t_persons t_law t_bellSet t_readAt t_readLaw t_readMany t_queueMany t_servedNow t_doneAt t_readings t_whichMany t_whichOne t_whichTwo t_traceNow t_kindOf t_comes t_wants t_runs t_readKind t_readComes t_readWants t_sheetSize t_sheetLane t_sheet) → va_S A s.heap H locs → ∀ ls : Array Slot, lv_has ls 6 [(0, .ref q_t), (1, .int p_k), (3, .int p_i), (4, .int p_n)] → W p l e (headSpec wsX9_day rm_Mo_day).room s m args below meth c H locs 0 0 (MQ below (CQi D (w_Mo_day cI cJ cS q_t q_t_kindOf q_t_comes q_t_wants q_t_runs q_t_readKind q_t_readComes q_t_readWants q_t_queueNow q_t_servedAt q_t_comesWas q_t_readingOf q_t_readingAt q_t_sheetSize q_t_sheetLane q_t_sheet q_t_hands o.2.1 o.2.2.1 o.2.2.2.1 o.2.2.2.2.1 o.2.2.2.2.2.1 o.2.2.2.2.2.2.1 o.2.2.2.2.2.2.2.1 t_queueMany t_servedNow t_doneAt o.2.2.2.2.2.2.2.2.1 t_whichMany t_whichOne t_whichTwo t_traceNow o.2.2.2.2.2.2.2.2.2.1 o.2.2.2.2.2.2.2.2.2.2.1 o.2.2.2.2.2.2.2.2.2.2.2.1 o.2.2.2.2.2.2.2.2.2.2.2.2.1 o.2.2.2.2.2.2.2.2.2.2.2.2.2.1 o.2.2.2.2.2.2.2.2.2.2.2.2.2.2.1 o.2.2.2.2.2.2.2.2.2.2.2.2.2.2.2 t_sheetSize t_sheetLane t_sheet) A o.1) args s 0 0 A) (F0 m 57 ls []) := by
    intro t_fault t_persons t_law t_bellSet t_readAt t_readLaw t_readMany t_readings t_kindOf t_comes t_wants t_runs t_readKind t_readComes t_readWants hM H locs hP hD hS ls hl
    unfold Mo_day_j57 at hM
    refine lv_aload_n hx hb dX9_day_57 rfl (lv_at hl 0 rfl) ?_
    refine va_get (ci := 8) (v := .ref q_t_sheetSize) (C := RX9) (T := TX9) (N := 31) hx hb hts iX9 hown hK.1 hP 0 rfl rfl 26 (Nat.le_of_ble_eq_true rfl) k1 (fun _ h9 => h9) rfl dX9_day_58 ?_
    refine lv_iload_n hx hb dX9_day_61 rfl (lv_at hl 1 rfl) ?_
    obtain ⟨h9, hM⟩ := o_ck hM
    refine va_iald hx hb hK.1 hP 8 0 rfl rfl h9 dX9_day_62 ?_
    refine lv_if_ge (tgt := 72) hx hb dX9_day_63 (by decide) (fun c10 => ?_) (fun c10 => ?_)
    · have hM := (o_if hM).1 c10
      refine lv_iload hx hb dX9_day_72 (lv_at hl 3 rfl) ?_
      refine lv_if_ge (tgt := 83) hx hb dX9_day_74 (by decide) (fun c11 => ?_) (fun c11 => ?_)
      · have hM := (o_if hM).1 c11
        refine lv_iload_n hx hb dX9_day_83 rfl (lv_at hl 2 rfl) ?_
        refine lv_iload hx hb dX9_day_84 (lv_at hl 3 rfl) ?_
        refine lv_i2l (v := p_n.toInt64) hx hb dX9_day_86 rfl ?_
        refine lv_aload_n hx hb dX9_day_87 rfl (lv_at hl 0 rfl) ?_
        refine va_get (ci := 8) (v := .ref q_t_sheetSize) (C := RX9) (T := TX9) (N := 31) hx hb hts iX9 hown hK.1 hP 0 rfl rfl 26 (Nat.le_of_ble_eq_true rfl) k1 (fun _ h9 => h9) rfl dX9_day_88 ?_
        refine lv_iload_n hx hb dX9_day_91 rfl (lv_at hl 1 rfl) ?_
        obtain ⟨h12, hM⟩ := o_ck hM
        refine va_iald hx hb hK.1 hP 8 0 rfl rfl h12 dX9_day_92 ?_
        obtain ⟨y13, h14, hM⟩ := o_bd hM
        refine af_i (ws2 := (w_Mo_day cI cJ cS q_t q_t_kindOf q_t_comes q_t_wants q_t_runs q_t_readKind q_t_readComes q_t_readWants q_t_queueNow q_t_servedAt q_t_comesWas q_t_readingOf q_t_readingAt q_t_sheetSize q_t_sheetLane q_t_sheet q_t_hands t_fault t_persons t_law t_bellSet t_readAt t_readLaw t_readMany t_queueMany t_servedNow t_doneAt t_readings t_whichMany t_whichOne t_whichTwo t_traceNow t_kindOf t_comes t_wants t_runs t_readKind t_readComes t_readWants t_sheetSize t_sheetLane t_sheet)) (va_runS (As := [.int p_i, .long p_n.toInt64, .int (t_sheetSize p_k.toNatClampNeg)]) (rest := []) ⟨hx, hb, hml, hown, hts⟩ (c_Mo_isBeyond l D cI cJ cS p_i p_n.toInt64 (t_sheetSize p_k.toNatClampNeg) y13 h14 _) (va_cwS 3 hts gX9_day_X9_isBeyond rfl rfl rfl (by decide +kernel) ⟨(Nat.le_of_ble_eq_true rfl), (Nat.le_of_ble_eq_true rfl)⟩) (pre_S hK hP hD [] rfl rfl) rfl rfl hl.1 rfl (lv_room (Nat.le_of_ble_eq_true rfl)) dX9_day_93 ⟨Nat.zero_le _, Nat.zero_le _⟩) hP hD hS hA [] [0, 1, 2, 3, 4, 5, 6, 7, 8, 9, 10] [0, 1, 2, 3, 4, 5, 6, 7, 8, 9, 10] rfl rfl rfl (by decide) rfl rfl (fun H locs hP hD hS => ?_)
        refine lv_if_eq (tgt := 105) hx hb dX9_day_96 (by decide) (fun c15 => ?_) (fun c15 => ?_)
        · have hM := (o_if hM).1 c15
          refine lv_aload_n hx hb dX9_day_105 rfl (lv_at hl 0 rfl) ?_
          refine lv_bipush (v := 60) hx hb dX9_day_106 (by decide) ?_
          refine lv_iload_n hx hb dX9_day_108 rfl (lv_at hl 1 rfl) ?_
          refine lv_imul hx hb dX9_day_109 ?_
          refine lv_iload_n hx hb dX9_day_110 rfl (lv_at hl 2 rfl) ?_
          refine lv_iadd hx hb dX9_day_111 ?_
          refine lv_iload hx hb dX9_day_112 (lv_at hl 3 rfl) ?_
          obtain ⟨y16, h17, hM⟩ := o_bd hM
          refine af_i (ws2 := (w_Mo_day cI cJ cS q_t q_t_kindOf q_t_comes q_t_wants q_t_runs q_t_readKind q_t_readComes q_t_readWants q_t_queueNow q_t_servedAt q_t_comesWas q_t_readingOf q_t_readingAt q_t_sheetSize q_t_sheetLane q_t_sheet q_t_hands t_fault t_persons t_law t_bellSet y16.2.1 y16.2.2.1 y16.2.2.2.1 t_queueMany t_servedNow t_doneAt t_readings t_whichMany t_whichOne t_whichTwo t_traceNow t_kindOf t_comes t_wants t_runs y16.2.2.2.2.1 y16.2.2.2.2.2.1 y16.2.2.2.2.2.2 t_sheetSize t_sheetLane t_sheet)) (va_runV (As := [.int ((60 * p_k) + p_i), .int p_n]) (rest := []) ⟨hx, hb, hml, hown, hts⟩ (c_Mo_readsDay l D cI cJ cS q_t q_t_kindOf q_t_comes q_t_wants q_t_runs q_t_readKind q_t_readComes q_t_readWants q_t_queueNow q_t_servedAt q_t_comesWas q_t_readingOf q_t_readingAt q_t_sheetSize q_t_sheetLane q_t_sheet q_t_hands t_fault t_persons t_law t_bellSet t_readAt t_readLaw t_readMany t_queueMany t_servedNow t_doneAt t_readings t_whichMany t_whichOne t_whichTwo t_traceNow t_readKind t_readComes t_readWants t_sheet ((60 * p_k) + p_i) p_n y16 h17 _) (cwV 2 hts gX9_day_X9_readsDay rfl rfl rfl (by decide +kernel) ⟨(Nat.le_of_ble_eq_true rfl), (Nat.le_of_ble_eq_true rfl)⟩) (pre_V hK hP hD [0, 5, 6, 7, 10] rfl rfl rfl rfl) rfl rfl hl.1 rfl (lv_room (Nat.le_of_ble_eq_true rfl)) dX9_day_114 ⟨Nat.zero_le _, Nat.zero_le _⟩) hP hD hS hA [0, 5, 6, 7, 10] [1, 2, 3, 4, 8, 9] [6, 0, 1, 2, 3, 7, 8, 9, 4, 5, 10] rfl rfl rfl (by decide) rfl rfl (fun H locs hP hD hS => ?_)
          refine lv_if_ne (tgt := 132) hx hb dX9_day_117 (by decide) (fun c18 => ?_) (fun c18 => ?_)
          · have hM := (o_if hM).2 c18
            refine lv_aload_n hx hb dX9_day_132 rfl (lv_at hl 0 rfl) ?_
            refine lv_aload_n hx hb dX9_day_133 rfl (lv_at hl 0 rfl) ?_
            refine va_get (ci := 8) (v := .int y16.2.2.1) (C := RX9) (T := TX9) (N := 31) hx hb hts iX9 hown hK.1 hP 0 rfl rfl 9 (Nat.le_of_ble_eq_true rfl) k2 (fun _ h9 => h9) rfl dX9_day_134 ?_
            refine va_put (ci := 8) (v := .int y16.2.2.1) (ty := .int) (C := RX9) (T := TX9) (N := 31) hx hb hts iX9 tyX9 tyX9_ok nmX9 hown hK.1 hP hD hS 0 rfl rfl 2 (Nat.le_of_ble_eq_true rfl) k3 (fun _ h9 => h9) rfl (tyX9_ok 2 (Nat.le_of_ble_eq_true rfl)) rfl rfl (Nat.le_of_ble_eq_true rfl) dX9_day_137 (fun H locs hP hD hS => ?_)
            have hP : va_P D vwCl (w_Mo_day cI cJ cS q_t q_t_kindOf q_t_comes q_t_wants q_t_runs q_t_readKind q_t_readComes q_t_readWants q_t_queueNow q_t_servedAt q_t_comesWas q_t_readingOf q_t_readingAt q_t_sheetSize q_t_sheetLane q_t_sheet q_t_hands t_fault t_persons y16.2.2.1 t_bellSet y16.2.1 y16.2.2.1 y16.2.2.2.1 t_queueMany t_servedNow t_doneAt t_readings t_whichMany t_whichOne t_whichTwo t_traceNow t_kindOf t_comes t_wants t_runs y16.2.2.2.2.1 y16.2.2.2.2.2.1 y16.2.2.2.2.2.2 t_sheetSize t_sheetLane t_sheet) H := hP
            have hD : va_D A (w_Mo_day cI cJ cS q_t q_t_kindOf q_t_comes q_t_wants q_t_runs q_t_readKind q_t_readComes q_t_readWants q_t_queueNow q_t_servedAt q_t_comesWas q_t_readingOf q_t_readingAt q_t_sheetSize q_t_sheetLane q_t_sheet q_t_hands t_fault t_persons y16.2.2.1 t_bellSet y16.2.1 y16.2.2.1 y16.2.2.2.1 t_queueMany t_servedNow t_doneAt t_readings t_whichMany t_whichOne t_whichTwo t_traceNow t_kindOf t_comes t_wants t_runs y16.2.2.2.2.1 y16.2.2.2.2.2.1 y16.2.2.2.2.2.2 t_sheetSize t_sheetLane t_sheet) := hD
            refine lv_aload_n hx hb dX9_day_140 rfl (lv_at hl 0 rfl) ?_
            refine lv_aload_n hx hb dX9_day_141 rfl (lv_at hl 0 rfl) ?_
            refine va_get (ci := 8) (v := .int y16.2.2.2.1) (C := RX9) (T := TX9) (N := 31) hx hb hts iX9 hown hK.1 hP 0 rfl rfl 10 (Nat.le_of_ble_eq_true rfl) k4 (fun _ h9 => h9) rfl dX9_day_142 ?_
            refine va_put (ci := 8) (v := .int y16.2.2.2.1) (ty := .int) (C := RX9) (T := TX9) (N := 31) hx hb hts iX9 tyX9 tyX9_ok nmX9 hown hK.1 hP hD hS 0 rfl rfl 1 (Nat.le_of_ble_eq_true rfl) k5 (fun _ h9 => h9) rfl (tyX9_ok 1 (Nat.le_of_ble_eq_true rfl)) rfl rfl (Nat.le_of_ble_eq_true rfl) dX9_day_145 (fun H locs hP hD hS => ?_)
            have hP : va_P D vwCl (w_Mo_day cI cJ cS q_t q_t_kindOf q_t_comes q_t_wants q_t_runs q_t_readKind q_t_readComes q_t_readWants q_t_queueNow q_t_servedAt q_t_comesWas q_t_readingOf q_t_readingAt q_t_sheetSize q_t_sheetLane q_t_sheet q_t_hands t_fault y16.2.2.2.1 y16.2.2.1 t_bellSet y16.2.1 y16.2.2.1 y16.2.2.2.1 t_queueMany t_servedNow t_doneAt t_readings t_whichMany t_whichOne t_whichTwo t_traceNow t_kindOf t_comes t_wants t_runs y16.2.2.2.2.1 y16.2.2.2.2.2.1 y16.2.2.2.2.2.2 t_sheetSize t_sheetLane t_sheet) H := hP
            have hD : va_D A (w_Mo_day cI cJ cS q_t q_t_kindOf q_t_comes q_t_wants q_t_runs q_t_readKind q_t_readComes q_t_readWants q_t_queueNow q_t_servedAt q_t_comesWas q_t_readingOf q_t_readingAt q_t_sheetSize q_t_sheetLane q_t_sheet q_t_hands t_fault y16.2.2.2.1 y16.2.2.1 t_bellSet y16.2.1 y16.2.2.1 y16.2.2.2.1 t_queueMany t_servedNow t_doneAt t_readings t_whichMany t_whichOne t_whichTwo t_traceNow t_kindOf t_comes t_wants t_runs y16.2.2.2.2.1 y16.2.2.2.2.2.1 y16.2.2.2.2.2.2 t_sheetSize t_sheetLane t_sheet) := hD
            refine lv_iconst (v := 0) hx hb dX9_day_148 (by decide) ?_
            refine lv_istore (lv' := [(5, .int 0), (0, .ref q_t), (1, .int p_k), (3, .int p_i), (4, .int p_n)]) hx hb dX9_day_149 hl (Nat.le_of_ble_eq_true rfl) rfl (fun ls hl => ?_)
            exact J151 0 t_fault y16.2.2.2.1 y16.2.2.1 t_bellSet y16.2.1 y16.2.2.1 y16.2.2.2.1 t_readings t_kindOf t_comes t_wants t_runs y16.2.2.2.2.1 y16.2.2.2.2.2.1 y16.2.2.2.2.2.2 hM _ _ hP hD hS _ (lv_sub hl [1, 0] rfl)
          · have hM := (o_if hM).1 c18
            refine lv_aload_n hx hb dX9_day_120 rfl (lv_at hl 0 rfl) ?_
            refine lv_bipush (v := (-100)) hx hb dX9_day_121 (by decide) ?_
            refine lv_aload_n hx hb dX9_day_123 rfl (lv_at hl 0 rfl) ?_
            refine va_get (ci := 8) (v := .int y16.2.1) (C := RX9) (T := TX9) (N := 31) hx hb hts iX9 hown hK.1 hP 0 rfl rfl 8 (Nat.le_of_ble_eq_true rfl) k15 (fun _ h9 => h9) rfl dX9_day_124 ?_
            refine lv_isub hx hb dX9_day_127 ?_
            obtain ⟨y33, h34, hM⟩ := o_bd hM
            refine af_i (ws2 := (w_Mo_day cI cJ cS q_t q_t_kindOf q_t_comes q_t_wants q_t_runs q_t_readKind q_t_readComes q_t_readWants q_t_queueNow q_t_servedAt q_t_comesWas q_t_readingOf q_t_readingAt q_t_sheetSize q_t_sheetLane q_t_sheet q_t_hands y33.2 t_persons t_law t_bellSet y16.2.1 y16.2.2.1 y16.2.2.2.1 t_queueMany t_servedNow t_doneAt t_readings t_whichMany t_whichOne t_whichTwo t_traceNow t_kindOf t_comes t_wants t_runs y16.2.2.2.2.1 y16.2.2.2.2.2.1 y16.2.2.2.2.2.2 t_sheetSize t_sheetLane t_sheet)) (va_runV (As := [.int ((-100) - y16.2.1)]) (rest := []) ⟨hx, hb, hml, hown, hts⟩ (c_Mo_refused l D cI cJ cS q_t q_t_kindOf q_t_comes q_t_wants q_t_runs q_t_readKind q_t_readComes q_t_readWants q_t_queueNow q_t_servedAt q_t_comesWas q_t_readingOf q_t_readingAt q_t_sheetSize q_t_sheetLane q_t_sheet q_t_hands t_fault t_persons t_law t_bellSet y16.2.1 y16.2.2.1 y16.2.2.2.1 t_queueMany t_servedNow t_doneAt t_readings t_whichMany t_whichOne t_whichTwo t_traceNow ((-100) - y16.2.1) y33 h34 _) (cwV 1 hts gX9_day_X9_refused rfl rfl rfl (by decide +kernel) ⟨(Nat.le_of_ble_eq_true rfl), (Nat.le_of_ble_eq_true rfl)⟩) (pre_V hK hP hD [0] rfl rfl rfl rfl) rfl rfl hl.1 rfl (lv_room (Nat.le_of_ble_eq_true rfl)) dX9_day_128 ⟨Nat.zero_le _, Nat.zero_le _⟩) hP hD hS hA [0] [1, 2, 3, 4, 5, 6, 7, 8, 9, 10] [10, 0, 1, 2, 3, 4, 5, 6, 7, 8, 9] rfl rfl rfl (by decide) rfl rfl (fun H locs hP hD hS => ?_)
            have hM := (Option.some.inj hM)
            subst hM
            exact rt_i hx hb hr hlocks hP hD hS dX9_day_131
        · have hM := (o_if hM).2 c15
          refine lv_aload_n hx hb dX9_day_99 rfl (lv_at hl 0 rfl) ?_
          refine lv_iconst (v := 3) hx hb dX9_day_100 (by decide) ?_
          obtain ⟨y35, h36, hM⟩ := o_bd hM
          refine af_i (ws2 := (w_Mo_day cI cJ cS q_t q_t_kindOf q_t_comes q_t_wants q_t_runs q_t_readKind q_t_readComes q_t_readWants q_t_queueNow q_t_servedAt q_t_comesWas q_t_readingOf q_t_readingAt q_t_sheetSize q_t_sheetLane q_t_sheet q_t_hands y35.2 t_persons t_law t_bellSet t_readAt t_readLaw t_readMany t_queueMany t_servedNow t_doneAt t_readings t_whichMany t_whichOne t_whichTwo t_traceNow t_kindOf t_comes t_wants t_runs t_readKind t_readComes t_readWants t_sheetSize t_sheetLane t_sheet)) (va_runV (As := [.int 3]) (rest := []) ⟨hx, hb, hml, hown, hts⟩ (c_Mo_failed l D cI cJ cS q_t q_t_kindOf q_t_comes q_t_wants q_t_runs q_t_readKind q_t_readComes q_t_readWants q_t_queueNow q_t_servedAt q_t_comesWas q_t_readingOf q_t_readingAt q_t_sheetSize q_t_sheetLane q_t_sheet q_t_hands t_fault t_persons t_law t_bellSet t_readAt t_readLaw t_readMany t_queueMany t_servedNow t_doneAt t_readings t_whichMany t_whichOne t_whichTwo t_traceNow 3 y35 h36 _) (cwV 1 hts gX9_day_X9_failed rfl rfl rfl (by decide +kernel) ⟨(Nat.le_of_ble_eq_true rfl), (Nat.le_of_ble_eq_true rfl)⟩) (pre_V hK hP hD [0] rfl rfl rfl rfl) rfl rfl hl.1 rfl (lv_room (Nat.le_of_ble_eq_true rfl)) dX9_day_101 ⟨Nat.zero_le _, Nat.zero_le _⟩) hP hD hS hA [0] [1, 2, 3, 4, 5, 6, 7, 8, 9, 10] [10, 0, 1, 2, 3, 4, 5, 6, 7, 8, 9] rfl rfl rfl (by decide) rfl rfl (fun H locs hP hD hS => ?_)
          have hM := (Option.some.inj hM)
          subst hM
          exact rt_i hx hb hr hlocks hP hD hS dX9_day_104
      · have hM := (o_if hM).2 c11
        refine lv_aload_n hx hb dX9_day_77 rfl (lv_at hl 0 rfl) ?_
        refine lv_iconst (v := 4) hx hb dX9_day_78 (by decide) ?_
        obtain ⟨y37, h38, hM⟩ := o_bd hM
        refine af_i (ws2 := (w_Mo_day cI cJ cS q_t q_t_kindOf q_t_comes q_t_wants q_t_runs q_t_readKind q_t_readComes q_t_readWants q_t_queueNow q_t_servedAt q_t_comesWas q_t_readingOf q_t_readingAt q_t_sheetSize q_t_sheetLane q_t_sheet q_t_hands y37.2 t_persons t_law t_bellSet t_readAt t_readLaw t_readMany t_queueMany t_servedNow t_doneAt t_readings t_whichMany t_whichOne t_whichTwo t_traceNow t_kindOf t_comes t_wants t_runs t_readKind t_readComes t_readWants t_sheetSize t_sheetLane t_sheet)) (va_runV (As := [.int 4]) (rest := []) ⟨hx, hb, hml, hown, hts⟩ (c_Mo_failed l D cI cJ cS q_t q_t_kindOf q_t_comes q_t_wants q_t_runs q_t_readKind q_t_readComes q_t_readWants q_t_queueNow q_t_servedAt q_t_comesWas q_t_readingOf q_t_readingAt q_t_sheetSize q_t_sheetLane q_t_sheet q_t_hands t_fault t_persons t_law t_bellSet t_readAt t_readLaw t_readMany t_queueMany t_servedNow t_doneAt t_readings t_whichMany t_whichOne t_whichTwo t_traceNow 4 y37 h38 _) (cwV 1 hts gX9_day_X9_failed rfl rfl rfl (by decide +kernel) ⟨(Nat.le_of_ble_eq_true rfl), (Nat.le_of_ble_eq_true rfl)⟩) (pre_V hK hP hD [0] rfl rfl rfl rfl) rfl rfl hl.1 rfl (lv_room (Nat.le_of_ble_eq_true rfl)) dX9_day_79 ⟨Nat.zero_le _, Nat.zero_le _⟩) hP hD hS hA [0] [1, 2, 3, 4, 5, 6, 7, 8, 9, 10] [10, 0, 1, 2, 3, 4, 5, 6, 7, 8, 9] rfl rfl rfl (by decide) rfl rfl (fun H locs hP hD hS => ?_)
        have hM := (Option.some.inj hM)
        subst hM
        exact rt_i hx hb hr hlocks hP hD hS dX9_day_82
    · have hM := (o_if hM).2 c10
      refine lv_aload_n hx hb dX9_day_66 rfl (lv_at hl 0 rfl) ?_
      refine lv_iconst (v := 1) hx hb dX9_day_67 (by decide) ?_
      obtain ⟨y39, h40, hM⟩ := o_bd hM
      refine af_i (ws2 := (w_Mo_day cI cJ cS q_t q_t_kindOf q_t_comes q_t_wants q_t_runs q_t_readKind q_t_readComes q_t_readWants q_t_queueNow q_t_servedAt q_t_comesWas q_t_readingOf q_t_readingAt q_t_sheetSize q_t_sheetLane q_t_sheet q_t_hands y39.2 t_persons t_law t_bellSet t_readAt t_readLaw t_readMany t_queueMany t_servedNow t_doneAt t_readings t_whichMany t_whichOne t_whichTwo t_traceNow t_kindOf t_comes t_wants t_runs t_readKind t_readComes t_readWants t_sheetSize t_sheetLane t_sheet)) (va_runV (As := [.int 1]) (rest := []) ⟨hx, hb, hml, hown, hts⟩ (c_Mo_failed l D cI cJ cS q_t q_t_kindOf q_t_comes q_t_wants q_t_runs q_t_readKind q_t_readComes q_t_readWants q_t_queueNow q_t_servedAt q_t_comesWas q_t_readingOf q_t_readingAt q_t_sheetSize q_t_sheetLane q_t_sheet q_t_hands t_fault t_persons t_law t_bellSet t_readAt t_readLaw t_readMany t_queueMany t_servedNow t_doneAt t_readings t_whichMany t_whichOne t_whichTwo t_traceNow 1 y39 h40 _) (cwV 1 hts gX9_day_X9_failed rfl rfl rfl (by decide +kernel) ⟨(Nat.le_of_ble_eq_true rfl), (Nat.le_of_ble_eq_true rfl)⟩) (pre_V hK hP hD [0] rfl rfl rfl rfl) rfl rfl hl.1 rfl (lv_room (Nat.le_of_ble_eq_true rfl)) dX9_day_68 ⟨Nat.zero_le _, Nat.zero_le _⟩) hP hD hS hA [0] [1, 2, 3, 4, 5, 6, 7, 8, 9, 10] [10, 0, 1, 2, 3, 4, 5, 6, 7, 8, 9] rfl rfl rfl (by decide) rfl rfl (fun H locs hP hD hS => ?_)
      have hM := (Option.some.inj hM)
      subst hM
      exact rt_i hx hb hr hlocks hP hD hS dX9_day_71
  unfold Mo_day at hM
  refine lv_iload_n hx hb dX9_day_0 rfl (lv_at hl 1 rfl) ?_
  obtain ⟨y1, h2, hM⟩ := o_bd hM
  refine af_i (ws2 := (w_Mo_day cI cJ cS q_t q_t_kindOf q_t_comes q_t_wants q_t_runs q_t_readKind q_t_readComes q_t_readWants q_t_queueNow q_t_servedAt q_t_comesWas q_t_readingOf q_t_readingAt q_t_sheetSize q_t_sheetLane q_t_sheet q_t_hands t_fault t_persons t_law t_bellSet t_readAt t_readLaw t_readMany t_queueMany t_servedNow t_doneAt t_readings t_whichMany t_whichOne t_whichTwo t_traceNow t_kindOf t_comes t_wants t_runs t_readKind t_readComes t_readWants t_sheetSize t_sheetLane t_sheet)) (va_runS (As := [.int p_k]) (rest := []) ⟨hx, hb, hml, hown, hts⟩ (c_Mo_noSheet l D cI cJ cS p_k y1 h2 _) (va_cwS 1 hts gX9_day_X9_noSheet rfl rfl rfl (by decide +kernel) ⟨(Nat.le_of_ble_eq_true rfl), (Nat.le_of_ble_eq_true rfl)⟩) (pre_S hK hP hD [] rfl rfl) rfl rfl hl.1 rfl (lv_room (Nat.le_of_ble_eq_true rfl)) dX9_day_1 ⟨Nat.zero_le _, Nat.zero_le _⟩) hP hD hS hA [] [0, 1, 2, 3, 4, 5, 6, 7, 8, 9, 10] [0, 1, 2, 3, 4, 5, 6, 7, 8, 9, 10] rfl rfl rfl (by decide) rfl rfl (fun H locs hP hD hS => ?_)
  refine lv_if_eq (tgt := 13) hx hb dX9_day_4 (by decide) (fun c3 => ?_) (fun c3 => ?_)
  · have hM := (o_if hM).1 c3
    refine lv_iload_n hx hb dX9_day_13 rfl (lv_at hl 2 rfl) ?_
    refine lv_i2l (v := p_lane.toInt64) hx hb dX9_day_14 rfl ?_
    refine lv_lconst (v := 0) hx hb dX9_day_15 (by decide) ?_
    refine lv_ldc2 (v := 2) hx hb hown k0 dX9_day_16 ?_
    obtain ⟨y4, h5, hM⟩ := o_bd hM
    refine af_i (ws2 := (w_Mo_day cI cJ cS q_t q_t_kindOf q_t_comes q_t_wants q_t_runs q_t_readKind q_t_readComes q_t_readWants q_t_queueNow q_t_servedAt q_t_comesWas q_t_readingOf q_t_readingAt q_t_sheetSize q_t_sheetLane q_t_sheet q_t_hands t_fault t_persons t_law t_bellSet t_readAt t_readLaw t_readMany t_queueMany t_servedNow t_doneAt t_readings t_whichMany t_whichOne t_whichTwo t_traceNow t_kindOf t_comes t_wants t_runs t_readKind t_readComes t_readWants t_sheetSize t_sheetLane t_sheet)) (va_runS (As := [.long p_lane.toInt64, .long 0, .long 2]) (rest := []) ⟨hx, hb, hml, hown, hts⟩ (c_Mo_in l D cI cJ cS p_lane.toInt64 0 2 y4 h5 _) (va_cwS 3 hts gX9_day_X9_in rfl rfl rfl (by decide +kernel) ⟨(Nat.le_of_ble_eq_true rfl), (Nat.le_of_ble_eq_true rfl)⟩) (pre_S hK hP hD [] rfl rfl) rfl rfl hl.1 rfl (lv_room (Nat.le_of_ble_eq_true rfl)) dX9_day_19 ⟨Nat.zero_le _, Nat.zero_le _⟩) hP hD hS hA [] [0, 1, 2, 3, 4, 5, 6, 7, 8, 9, 10] [0, 1, 2, 3, 4, 5, 6, 7, 8, 9, 10] rfl rfl rfl (by decide) rfl rfl (fun H locs hP hD hS => ?_)
    refine lv_if_ne (tgt := 32) hx hb dX9_day_22 (by decide) (fun c6 => ?_) (fun c6 => ?_)
    · have hM := (o_if hM).2 c6
      refine lv_aload_n hx hb dX9_day_32 rfl (lv_at hl 0 rfl) ?_
      refine va_get (ci := 8) (v := .ref q_t_sheetSize) (C := RX9) (T := TX9) (N := 31) hx hb hts iX9 hown hK.1 hP 0 rfl rfl 26 (Nat.le_of_ble_eq_true rfl) k1 (fun _ h9 => h9) rfl dX9_day_33 ?_
      refine lv_iload_n hx hb dX9_day_36 rfl (lv_at hl 1 rfl) ?_
      obtain ⟨h7, hM⟩ := o_ck hM
      refine va_iald hx hb hK.1 hP 8 0 rfl rfl h7 dX9_day_37 ?_
      refine lv_if_lt (tgt := 57) hx hb dX9_day_38 (by decide) (fun c8 => ?_) (fun c8 => ?_)
      · have hM := (o_if hM).1 c8
        exact J57 t_fault t_persons t_law t_bellSet t_readAt t_readLaw t_readMany t_readings t_kindOf t_comes t_wants t_runs t_readKind t_readComes t_readWants hM _ _ hP hD hS _ (lv_sub hl [0, 1, 3, 4] rfl)
      · have hM := (o_if hM).2 c8
        refine lv_aload_n hx hb dX9_day_41 rfl (lv_at hl 0 rfl) ?_
        refine va_get (ci := 8) (v := .ref q_t_sheetLane) (C := RX9) (T := TX9) (N := 31) hx hb hts iX9 hown hK.1 hP 0 rfl rfl 27 (Nat.le_of_ble_eq_true rfl) k16 (fun _ h9 => h9) rfl dX9_day_42 ?_
        refine lv_iload_n hx hb dX9_day_45 rfl (lv_at hl 1 rfl) ?_
        obtain ⟨h41, hM⟩ := o_ck hM
        refine va_iald hx hb hK.1 hP 9 0 rfl rfl h41 dX9_day_46 ?_
        refine lv_iload_n hx hb dX9_day_47 rfl (lv_at hl 2 rfl) ?_
        refine lv_icmp_eq (tgt := 57) hx hb dX9_day_48 (by decide) (fun c42 => ?_) (fun c42 => ?_)
        · have hM := (o_if hM).1 c42
          exact J57 t_fault t_persons t_law t_bellSet t_readAt t_readLaw t_readMany t_readings t_kindOf t_comes t_wants t_runs t_readKind t_readComes t_readWants hM _ _ hP hD hS _ (lv_sub hl [0, 1, 3, 4] rfl)
        · have hM := (o_if hM).2 c42
          refine lv_aload_n hx hb dX9_day_51 rfl (lv_at hl 0 rfl) ?_
          refine lv_iconst (v := 2) hx hb dX9_day_52 (by decide) ?_
          obtain ⟨y43, h44, hM⟩ := o_bd hM
          refine af_i (ws2 := (w_Mo_day cI cJ cS q_t q_t_kindOf q_t_comes q_t_wants q_t_runs q_t_readKind q_t_readComes q_t_readWants q_t_queueNow q_t_servedAt q_t_comesWas q_t_readingOf q_t_readingAt q_t_sheetSize q_t_sheetLane q_t_sheet q_t_hands y43.2 t_persons t_law t_bellSet t_readAt t_readLaw t_readMany t_queueMany t_servedNow t_doneAt t_readings t_whichMany t_whichOne t_whichTwo t_traceNow t_kindOf t_comes t_wants t_runs t_readKind t_readComes t_readWants t_sheetSize t_sheetLane t_sheet)) (va_runV (As := [.int 2]) (rest := []) ⟨hx, hb, hml, hown, hts⟩ (c_Mo_failed l D cI cJ cS q_t q_t_kindOf q_t_comes q_t_wants q_t_runs q_t_readKind q_t_readComes q_t_readWants q_t_queueNow q_t_servedAt q_t_comesWas q_t_readingOf q_t_readingAt q_t_sheetSize q_t_sheetLane q_t_sheet q_t_hands t_fault t_persons t_law t_bellSet t_readAt t_readLaw t_readMany t_queueMany t_servedNow t_doneAt t_readings t_whichMany t_whichOne t_whichTwo t_traceNow 2 y43 h44 _) (cwV 1 hts gX9_day_X9_failed rfl rfl rfl (by decide +kernel) ⟨(Nat.le_of_ble_eq_true rfl), (Nat.le_of_ble_eq_true rfl)⟩) (pre_V hK hP hD [0] rfl rfl rfl rfl) rfl rfl hl.1 rfl (lv_room (Nat.le_of_ble_eq_true rfl)) dX9_day_53 ⟨Nat.zero_le _, Nat.zero_le _⟩) hP hD hS hA [0] [1, 2, 3, 4, 5, 6, 7, 8, 9, 10] [10, 0, 1, 2, 3, 4, 5, 6, 7, 8, 9] rfl rfl rfl (by decide) rfl rfl (fun H locs hP hD hS => ?_)
          have hM := (Option.some.inj hM)
          subst hM
          exact rt_i hx hb hr hlocks hP hD hS dX9_day_56
    · have hM := (o_if hM).1 c6
      refine lv_aload_n hx hb dX9_day_25 rfl (lv_at hl 0 rfl) ?_
      refine lv_bipush (v := (-2)) hx hb dX9_day_26 (by decide) ?_
      obtain ⟨y45, h46, hM⟩ := o_bd hM
      refine af_i (ws2 := (w_Mo_day cI cJ cS q_t q_t_kindOf q_t_comes q_t_wants q_t_runs q_t_readKind q_t_readComes q_t_readWants q_t_queueNow q_t_servedAt q_t_comesWas q_t_readingOf q_t_readingAt q_t_sheetSize q_t_sheetLane q_t_sheet q_t_hands y45.2 t_persons t_law t_bellSet t_readAt t_readLaw t_readMany t_queueMany t_servedNow t_doneAt t_readings t_whichMany t_whichOne t_whichTwo t_traceNow t_kindOf t_comes t_wants t_runs t_readKind t_readComes t_readWants t_sheetSize t_sheetLane t_sheet)) (va_runV (As := [.int (-2)]) (rest := []) ⟨hx, hb, hml, hown, hts⟩ (c_Mo_refused l D cI cJ cS q_t q_t_kindOf q_t_comes q_t_wants q_t_runs q_t_readKind q_t_readComes q_t_readWants q_t_queueNow q_t_servedAt q_t_comesWas q_t_readingOf q_t_readingAt q_t_sheetSize q_t_sheetLane q_t_sheet q_t_hands t_fault t_persons t_law t_bellSet t_readAt t_readLaw t_readMany t_queueMany t_servedNow t_doneAt t_readings t_whichMany t_whichOne t_whichTwo t_traceNow (-2) y45 h46 _) (cwV 1 hts gX9_day_X9_refused rfl rfl rfl (by decide +kernel) ⟨(Nat.le_of_ble_eq_true rfl), (Nat.le_of_ble_eq_true rfl)⟩) (pre_V hK hP hD [0] rfl rfl rfl rfl) rfl rfl hl.1 rfl (lv_room (Nat.le_of_ble_eq_true rfl)) dX9_day_28 ⟨Nat.zero_le _, Nat.zero_le _⟩) hP hD hS hA [0] [1, 2, 3, 4, 5, 6, 7, 8, 9, 10] [10, 0, 1, 2, 3, 4, 5, 6, 7, 8, 9] rfl rfl rfl (by decide) rfl rfl (fun H locs hP hD hS => ?_)
      have hM := (Option.some.inj hM)
      subst hM
      exact rt_i hx hb hr hlocks hP hD hS dX9_day_31
  · have hM := (o_if hM).2 c3
    refine lv_aload_n hx hb dX9_day_7 rfl (lv_at hl 0 rfl) ?_
    refine lv_iconst (v := (-1)) hx hb dX9_day_8 (by decide) ?_
    obtain ⟨y47, h48, hM⟩ := o_bd hM
    refine af_i (ws2 := (w_Mo_day cI cJ cS q_t q_t_kindOf q_t_comes q_t_wants q_t_runs q_t_readKind q_t_readComes q_t_readWants q_t_queueNow q_t_servedAt q_t_comesWas q_t_readingOf q_t_readingAt q_t_sheetSize q_t_sheetLane q_t_sheet q_t_hands y47.2 t_persons t_law t_bellSet t_readAt t_readLaw t_readMany t_queueMany t_servedNow t_doneAt t_readings t_whichMany t_whichOne t_whichTwo t_traceNow t_kindOf t_comes t_wants t_runs t_readKind t_readComes t_readWants t_sheetSize t_sheetLane t_sheet)) (va_runV (As := [.int (-1)]) (rest := []) ⟨hx, hb, hml, hown, hts⟩ (c_Mo_refused l D cI cJ cS q_t q_t_kindOf q_t_comes q_t_wants q_t_runs q_t_readKind q_t_readComes q_t_readWants q_t_queueNow q_t_servedAt q_t_comesWas q_t_readingOf q_t_readingAt q_t_sheetSize q_t_sheetLane q_t_sheet q_t_hands t_fault t_persons t_law t_bellSet t_readAt t_readLaw t_readMany t_queueMany t_servedNow t_doneAt t_readings t_whichMany t_whichOne t_whichTwo t_traceNow (-1) y47 h48 _) (cwV 1 hts gX9_day_X9_refused rfl rfl rfl (by decide +kernel) ⟨(Nat.le_of_ble_eq_true rfl), (Nat.le_of_ble_eq_true rfl)⟩) (pre_V hK hP hD [0] rfl rfl rfl rfl) rfl rfl hl.1 rfl (lv_room (Nat.le_of_ble_eq_true rfl)) dX9_day_9 ⟨Nat.zero_le _, Nat.zero_le _⟩) hP hD hS hA [0] [1, 2, 3, 4, 5, 6, 7, 8, 9, 10] [10, 0, 1, 2, 3, 4, 5, 6, 7, 8, 9] rfl rfl rfl (by decide) rfl rfl (fun H locs hP hD hS => ?_)
    have hM := (Option.some.inj hM)
    subst hM
    exact rt_i hx hb hr hlocks hP hD hS dX9_day_12
/-! ===== TurnQueueModel.ofPerson ===== -/
abbrev w_Mo_ofPerson (cI cJ cS : ClassId) (q_t : Nat) (q_t_kindOf : Nat) (q_t_comes : Nat) (q_t_wants : Nat) (q_t_runs : Nat) (q_t_readKind : Nat) (q_t_readComes : Nat) (q_t_readWants : Nat) (q_t_queueNow : Nat) (q_t_servedAt : Nat) (q_t_comesWas : Nat) (q_t_readingOf : Nat) (q_t_readingAt : Nat) (q_t_sheetSize : Nat) (q_t_sheetLane : Nat) (q_t_sheet : Nat) (q_t_hands : Nat) (t_fault : Int32) (t_persons : Int32) (t_law : Int32) (t_bellSet : Int64) (t_readAt : Int32) (t_readLaw : Int32) (t_readMany : Int32) (t_queueMany : Int32) (t_servedNow : Int32) (t_doneAt : Int32) (t_readings : Int32) (t_whichMany : Int32) (t_whichOne : Int32) (t_whichTwo : Int32) (t_traceNow : Int32) (t_kindOf : Nat → Int32) (t_comes : Nat → Int32) (t_wants : Nat → Int32) (t_runs : Nat → Int32) : va_W := [(q_t, .inr (8, [.int t_fault, .int t_persons, .int t_law, .ref q_t_kindOf, .ref q_t_comes, .ref q_t_wants, .ref q_t_runs, .long t_bellSet, .int t_readAt, .int t_readLaw, .int t_readMany, .ref q_t_readKind, .ref q_t_readComes, .ref q_t_readWants, .ref q_t_queueNow, .int t_queueMany, .int t_servedNow, .int t_doneAt, .ref q_t_servedAt, .ref q_t_comesWas, .int t_readings, .ref q_t_readingOf, .ref q_t_readingAt, .int t_whichMany, .int t_whichOne, .int t_whichTwo, .ref q_t_sheetSize, .ref q_t_sheetLane, .ref q_t_sheet, .ref q_t_hands, .int t_traceNow])), (q_t_kindOf, ar cI 7 t_kindOf), (q_t_comes, ar cI 7 t_comes), (q_t_wants, ar cI 7 t_wants), (q_t_runs, ar cI 7 t_runs)]
abbrev rm_Mo_ofPerson : Room := { frames := 2, cells := 0, slots := 0, locals := 46 }
noncomputable def Mo_ofPerson (p_p : Int32) (p_what : Int32) (t_persons : Int32) (t_kindOf : Nat → Int32) (t_comes : Nat → Int32) (t_wants : Nat → Int32) (t_runs : Nat → Int32) : Option (Int32) :=
  (Mo_noPerson p_p t_persons).bind fun y1 =>
  if y1 = 0 then
    if p_what = 0 then
      if ck p_p 7 = true then
        some (t_kindOf p_p.toNatClampNeg)
      else none
    else
      if p_what = 1 then
        if ck p_p 7 = true then
          some (t_comes p_p.toNatClampNeg)
        else none
      else
        if p_what = 2 then
          if ck p_p 7 = true then
            some (t_wants p_p.toNatClampNeg)
          else none
        else
          if p_what = 3 then
            if ck p_p 7 = true then
              some (t_runs p_p.toNatClampNeg)
            else none
          else
            some (-2)
  else
    some (-1)
set_option maxRecDepth 100000 in
set_option maxHeartbeats 4000000 in
theorem c_Mo_ofPerson (l : Launch) (D : va_G) (cI cJ cS : ClassId) (q_t q_t_kindOf q_t_comes q_t_wants q_t_runs q_t_readKind q_t_readComes q_t_readWants q_t_queueNow q_t_servedAt q_t_comesWas q_t_readingOf q_t_readingAt q_t_sheetSize q_t_sheetLane q_t_sheet q_t_hands : Nat) (t_fault : Int32) (t_persons : Int32) (t_law : Int32) (t_bellSet : Int64) (t_readAt : Int32) (t_readLaw : Int32) (t_readMany : Int32) (t_queueMany : Int32) (t_servedNow : Int32) (t_doneAt : Int32) (t_readings : Int32) (t_whichMany : Int32) (t_whichOne : Int32) (t_whichTwo : Int32) (t_traceNow : Int32) (t_kindOf : Nat → Int32) (t_comes : Nat → Int32) (t_wants : Nat → Int32) (t_runs : Nat → Int32) (p_p : Int32) (p_what : Int32) (o : Int32) (hM : Mo_ofPerson p_p p_what t_persons t_kindOf t_comes t_wants t_runs = some o) : Ci l yX9_ofPerson wsX9_ofPerson rm_Mo_ofPerson D cI cJ cS [.ref q_t, .int p_p, .int p_what] (w_Mo_ofPerson cI cJ cS q_t q_t_kindOf q_t_comes q_t_wants q_t_runs q_t_readKind q_t_readComes q_t_readWants q_t_queueNow q_t_servedAt q_t_comesWas q_t_readingOf q_t_readingAt q_t_sheetSize q_t_sheetLane q_t_sheet q_t_hands t_fault t_persons t_law t_bellSet t_readAt t_readLaw t_readMany t_queueMany t_servedNow t_doneAt t_readings t_whichMany t_whichOne t_whichTwo t_traceNow t_kindOf t_comes t_wants t_runs) (w_Mo_ofPerson cI cJ cS q_t q_t_kindOf q_t_comes q_t_wants q_t_runs q_t_readKind q_t_readComes q_t_readWants q_t_queueNow q_t_servedAt q_t_comesWas q_t_readingOf q_t_readingAt q_t_sheetSize q_t_sheetLane q_t_sheet q_t_hands t_fault t_persons t_law t_bellSet t_readAt t_readLaw t_readMany t_queueMany t_servedNow t_doneAt t_readings t_whichMany t_whichOne t_whichTwo t_traceNow t_kindOf t_comes t_wants t_runs) o := by
  refine Ci.of (cc := cX9_ofPerson) (maxL := 3) (ret := (some .int)) (by decide) rfl (Nat.le_of_ble_eq_true rfl) ?_
  intro p e s m args below meth c A ls hE
  obtain ⟨hx, hb, hr, hml, hown, hts, hlocks, hK, hA, hP, hD, hS, hl⟩ := hE
  have hown : s.vm.findClass RX9 = some m.cls := hown
  have hl : lv_has ls 3 [(0, .ref q_t), (1, .int p_p), (2, .int p_what)] := hl
  have iX9 : ∀ w ∈ u_ws RX9 TX9 31, w ∈ wsX9_ofPerson := by decide +kernel
  have k0 := hts (.fieldLink RX9 7 "TurnQueueModel" "kindOf" "[I") (by decide +kernel)
  have k1 := hts (.fieldLink RX9 13 "TurnQueueModel" "comes" "[I") (by decide +kernel)
  have k2 := hts (.fieldLink RX9 16 "TurnQueueModel" "wants" "[I") (by decide +kernel)
  have k3 := hts (.fieldLink RX9 19 "TurnQueueModel" "runs" "[I") (by decide +kernel)
  unfold Mo_ofPerson at hM
  refine lv_aload_n hx hb dX9_ofPerson_0 rfl (lv_at hl 0 rfl) ?_
  refine lv_iload_n hx hb dX9_ofPerson_1 rfl (lv_at hl 1 rfl) ?_
  obtain ⟨y1, h2, hM⟩ := o_bd hM
  refine af_i (ws2 := (w_Mo_ofPerson cI cJ cS q_t q_t_kindOf q_t_comes q_t_wants q_t_runs q_t_readKind q_t_readComes q_t_readWants q_t_queueNow q_t_servedAt q_t_comesWas q_t_readingOf q_t_readingAt q_t_sheetSize q_t_sheetLane q_t_sheet q_t_hands t_fault t_persons t_law t_bellSet t_readAt t_readLaw t_readMany t_queueMany t_servedNow t_doneAt t_readings t_whichMany t_whichOne t_whichTwo t_traceNow t_kindOf t_comes t_wants t_runs)) (va_runV (As := [.int p_p]) (rest := []) ⟨hx, hb, hml, hown, hts⟩ (c_Mo_noPerson l D cI cJ cS q_t q_t_kindOf q_t_comes q_t_wants q_t_runs q_t_readKind q_t_readComes q_t_readWants q_t_queueNow q_t_servedAt q_t_comesWas q_t_readingOf q_t_readingAt q_t_sheetSize q_t_sheetLane q_t_sheet q_t_hands t_fault t_persons t_law t_bellSet t_readAt t_readLaw t_readMany t_queueMany t_servedNow t_doneAt t_readings t_whichMany t_whichOne t_whichTwo t_traceNow p_p y1 h2 _) (cwV 1 hts gX9_ofPerson_X9_noPerson rfl rfl rfl (by decide +kernel) ⟨(Nat.le_of_ble_eq_true rfl), (Nat.le_of_ble_eq_true rfl)⟩) (pre_V hK hP hD [0] rfl rfl rfl rfl) rfl rfl hl.1 rfl (lv_room (Nat.le_of_ble_eq_true rfl)) dX9_ofPerson_2 ⟨Nat.zero_le _, Nat.zero_le _⟩) hP hD hS hA [0] [1, 2, 3, 4] [4, 0, 1, 2, 3] rfl rfl rfl (by decide) rfl rfl (fun H locs hP hD hS => ?_)
  refine lv_if_eq (tgt := 10) hx hb dX9_ofPerson_5 (by decide) (fun c3 => ?_) (fun c3 => ?_)
  · have hM := (o_if hM).1 c3
    refine lv_iload_n hx hb dX9_ofPerson_10 rfl (lv_at hl 2 rfl) ?_
    by_cases c4 : p_what = 0
    · have hM := (o_if hM).1 c4
      refine lv_tableIn (off := 29) (tgt := 40) hx hb dX9_ofPerson_11 (by rw [c4]; decide) (by rw [c4]; decide) (by rw [c4]; rfl) (by decide) ?_
      refine lv_aload_n hx hb dX9_ofPerson_40 rfl (lv_at hl 0 rfl) ?_
      refine va_get (ci := 8) (v := .ref q_t_kindOf) (C := RX9) (T := TX9) (N := 31) hx hb hts iX9 hown hK.1 hP 0 rfl rfl 3 (Nat.le_of_ble_eq_true rfl) k0 (fun _ h9 => h9) rfl dX9_ofPerson_41 ?_
      refine lv_iload_n hx hb dX9_ofPerson_44 rfl (lv_at hl 1 rfl) ?_
      obtain ⟨h5, hM⟩ := o_ck hM
      refine va_iald hx hb hK.1 hP 1 0 rfl rfl h5 dX9_ofPerson_45 ?_
      have hM := (Option.some.inj hM)
      subst hM
      exact rt_i hx hb hr hlocks hP hD hS dX9_ofPerson_46
    have hM := (o_if hM).2 c4
    by_cases c6 : p_what = 1
    · have hM := (o_if hM).1 c6
      refine lv_tableIn (off := 36) (tgt := 47) hx hb dX9_ofPerson_11 (by rw [c6]; decide) (by rw [c6]; decide) (by rw [c6]; rfl) (by decide) ?_
      refine lv_aload_n hx hb dX9_ofPerson_47 rfl (lv_at hl 0 rfl) ?_
      refine va_get (ci := 8) (v := .ref q_t_comes) (C := RX9) (T := TX9) (N := 31) hx hb hts iX9 hown hK.1 hP 0 rfl rfl 4 (Nat.le_of_ble_eq_true rfl) k1 (fun _ h9 => h9) rfl dX9_ofPerson_48 ?_
      refine lv_iload_n hx hb dX9_ofPerson_51 rfl (lv_at hl 1 rfl) ?_
      obtain ⟨h7, hM⟩ := o_ck hM
      refine va_iald hx hb hK.1 hP 2 0 rfl rfl h7 dX9_ofPerson_52 ?_
      have hM := (Option.some.inj hM)
      subst hM
      exact rt_i hx hb hr hlocks hP hD hS dX9_ofPerson_53
    have hM := (o_if hM).2 c6
    by_cases c8 : p_what = 2
    · have hM := (o_if hM).1 c8
      refine lv_tableIn (off := 43) (tgt := 54) hx hb dX9_ofPerson_11 (by rw [c8]; decide) (by rw [c8]; decide) (by rw [c8]; rfl) (by decide) ?_
      refine lv_aload_n hx hb dX9_ofPerson_54 rfl (lv_at hl 0 rfl) ?_
      refine va_get (ci := 8) (v := .ref q_t_wants) (C := RX9) (T := TX9) (N := 31) hx hb hts iX9 hown hK.1 hP 0 rfl rfl 5 (Nat.le_of_ble_eq_true rfl) k2 (fun _ h9 => h9) rfl dX9_ofPerson_55 ?_
      refine lv_iload_n hx hb dX9_ofPerson_58 rfl (lv_at hl 1 rfl) ?_
      obtain ⟨h9, hM⟩ := o_ck hM
      refine va_iald hx hb hK.1 hP 3 0 rfl rfl h9 dX9_ofPerson_59 ?_
      have hM := (Option.some.inj hM)
      subst hM
      exact rt_i hx hb hr hlocks hP hD hS dX9_ofPerson_60
    have hM := (o_if hM).2 c8
    by_cases c10 : p_what = 3
    · have hM := (o_if hM).1 c10
      refine lv_tableIn (off := 50) (tgt := 61) hx hb dX9_ofPerson_11 (by rw [c10]; decide) (by rw [c10]; decide) (by rw [c10]; rfl) (by decide) ?_
      refine lv_aload_n hx hb dX9_ofPerson_61 rfl (lv_at hl 0 rfl) ?_
      refine va_get (ci := 8) (v := .ref q_t_runs) (C := RX9) (T := TX9) (N := 31) hx hb hts iX9 hown hK.1 hP 0 rfl rfl 6 (Nat.le_of_ble_eq_true rfl) k3 (fun _ h9 => h9) rfl dX9_ofPerson_62 ?_
      refine lv_iload_n hx hb dX9_ofPerson_65 rfl (lv_at hl 1 rfl) ?_
      obtain ⟨h11, hM⟩ := o_ck hM
      refine va_iald hx hb hK.1 hP 4 0 rfl rfl h11 dX9_ofPerson_66 ?_
      have hM := (Option.some.inj hM)
      subst hM
      exact rt_i hx hb hr hlocks hP hD hS dX9_ofPerson_67
    have hM := (o_if hM).2 c10
    refine lv_tableOut (tgt := 68) hx hb dX9_ofPerson_11 (by have q0 := lv_neT c4 (a := 0) rfl; have q1 := lv_neT c6 (a := 1) rfl; have q2 := lv_neT c8 (a := 2) rfl; have q3 := lv_neT c10 (a := 3) rfl; omega) (by decide) ?_
    refine lv_bipush (v := (-2)) hx hb dX9_ofPerson_68 (by decide) ?_
    have hM := (Option.some.inj hM)
    subst hM
    exact rt_i hx hb hr hlocks hP hD hS dX9_ofPerson_70
  · have hM := (o_if hM).2 c3
    refine lv_iconst (v := (-1)) hx hb dX9_ofPerson_8 (by decide) ?_
    have hM := (Option.some.inj hM)
    subst hM
    exact rt_i hx hb hr hlocks hP hD hS dX9_ofPerson_9
/-! ===== TurnQueueModel.come ===== -/
abbrev w_Mo_come (cI cJ cS : ClassId) (q_t : Nat) (q_t_kindOf : Nat) (q_t_comes : Nat) (q_t_wants : Nat) (q_t_runs : Nat) (q_t_readKind : Nat) (q_t_readComes : Nat) (q_t_readWants : Nat) (q_t_queueNow : Nat) (q_t_servedAt : Nat) (q_t_comesWas : Nat) (q_t_readingOf : Nat) (q_t_readingAt : Nat) (q_t_sheetSize : Nat) (q_t_sheetLane : Nat) (q_t_sheet : Nat) (q_t_hands : Nat) (t_fault : Int32) (t_persons : Int32) (t_law : Int32) (t_bellSet : Int64) (t_readAt : Int32) (t_readLaw : Int32) (t_readMany : Int32) (t_queueMany : Int32) (t_servedNow : Int32) (t_doneAt : Int32) (t_readings : Int32) (t_whichMany : Int32) (t_whichOne : Int32) (t_whichTwo : Int32) (t_traceNow : Int32) (t_comes : Nat → Int32) : va_W := [(q_t, .inr (8, [.int t_fault, .int t_persons, .int t_law, .ref q_t_kindOf, .ref q_t_comes, .ref q_t_wants, .ref q_t_runs, .long t_bellSet, .int t_readAt, .int t_readLaw, .int t_readMany, .ref q_t_readKind, .ref q_t_readComes, .ref q_t_readWants, .ref q_t_queueNow, .int t_queueMany, .int t_servedNow, .int t_doneAt, .ref q_t_servedAt, .ref q_t_comesWas, .int t_readings, .ref q_t_readingOf, .ref q_t_readingAt, .int t_whichMany, .int t_whichOne, .int t_whichTwo, .ref q_t_sheetSize, .ref q_t_sheetLane, .ref q_t_sheet, .ref q_t_hands, .int t_traceNow])), (q_t_comes, ar cI 7 t_comes)]
abbrev rm_Mo_come : Room := { frames := 2, cells := 0, slots := 0, locals := 46 }
noncomputable def Mo_come (p_p : Int32) (p_minute : Int32) (t_persons : Int32) (t_comes : Nat → Int32) : Option (Int32 × (Nat → Int32)) :=
  (Mo_noPerson p_p t_persons).bind fun y1 =>
  if y1 = 0 then
    (Mo_isMinute p_minute).bind fun y4 =>
    if y4 = 0 then
      some ((-2), t_comes)
    else
      if ck p_p 7 = true then
        lt (t_comes p_p.toNatClampNeg) fun y8 =>
        if ck p_p 7 = true then
          some (y8, upd t_comes p_p.toNatClampNeg p_minute)
        else none
      else none
  else
    some ((-1), t_comes)
set_option maxRecDepth 100000 in
set_option maxHeartbeats 4000000 in
theorem c_Mo_come (l : Launch) (D : va_G) (cI cJ cS : ClassId) (q_t q_t_kindOf q_t_comes q_t_wants q_t_runs q_t_readKind q_t_readComes q_t_readWants q_t_queueNow q_t_servedAt q_t_comesWas q_t_readingOf q_t_readingAt q_t_sheetSize q_t_sheetLane q_t_sheet q_t_hands : Nat) (t_fault : Int32) (t_persons : Int32) (t_law : Int32) (t_bellSet : Int64) (t_readAt : Int32) (t_readLaw : Int32) (t_readMany : Int32) (t_queueMany : Int32) (t_servedNow : Int32) (t_doneAt : Int32) (t_readings : Int32) (t_whichMany : Int32) (t_whichOne : Int32) (t_whichTwo : Int32) (t_traceNow : Int32) (t_comes : Nat → Int32) (p_p : Int32) (p_minute : Int32) (o : Int32 × (Nat → Int32)) (hM : Mo_come p_p p_minute t_persons t_comes = some o) : Ci l yX9_come wsX9_come rm_Mo_come D cI cJ cS [.ref q_t, .int p_p, .int p_minute] (w_Mo_come cI cJ cS q_t q_t_kindOf q_t_comes q_t_wants q_t_runs q_t_readKind q_t_readComes q_t_readWants q_t_queueNow q_t_servedAt q_t_comesWas q_t_readingOf q_t_readingAt q_t_sheetSize q_t_sheetLane q_t_sheet q_t_hands t_fault t_persons t_law t_bellSet t_readAt t_readLaw t_readMany t_queueMany t_servedNow t_doneAt t_readings t_whichMany t_whichOne t_whichTwo t_traceNow t_comes) (w_Mo_come cI cJ cS q_t q_t_kindOf q_t_comes q_t_wants q_t_runs q_t_readKind q_t_readComes q_t_readWants q_t_queueNow q_t_servedAt q_t_comesWas q_t_readingOf q_t_readingAt q_t_sheetSize q_t_sheetLane q_t_sheet q_t_hands t_fault t_persons t_law t_bellSet t_readAt t_readLaw t_readMany t_queueMany t_servedNow t_doneAt t_readings t_whichMany t_whichOne t_whichTwo t_traceNow o.2) o.1 := by
  refine Ci.of (cc := cX9_come) (maxL := 4) (ret := (some .int)) (by decide) rfl (Nat.le_of_ble_eq_true rfl) ?_
  intro p e s m args below meth c A ls hE
  obtain ⟨hx, hb, hr, hml, hown, hts, hlocks, hK, hA, hP, hD, hS, hl⟩ := hE
  have hown : s.vm.findClass RX9 = some m.cls := hown
  have hl : lv_has ls 4 [(0, .ref q_t), (1, .int p_p), (2, .int p_minute)] := hl
  have iX9 : ∀ w ∈ u_ws RX9 TX9 31, w ∈ wsX9_come := by decide +kernel
  have k0 := hts (.fieldLink RX9 13 "TurnQueueModel" "comes" "[I") (by decide +kernel)
  unfold Mo_come at hM
  refine lv_aload_n hx hb dX9_come_0 rfl (lv_at hl 0 rfl) ?_
  refine lv_iload_n hx hb dX9_come_1 rfl (lv_at hl 1 rfl) ?_
  obtain ⟨y1, h2, hM⟩ := o_bd hM
  refine af_i (ws2 := (w_Mo_come cI cJ cS q_t q_t_kindOf q_t_comes q_t_wants q_t_runs q_t_readKind q_t_readComes q_t_readWants q_t_queueNow q_t_servedAt q_t_comesWas q_t_readingOf q_t_readingAt q_t_sheetSize q_t_sheetLane q_t_sheet q_t_hands t_fault t_persons t_law t_bellSet t_readAt t_readLaw t_readMany t_queueMany t_servedNow t_doneAt t_readings t_whichMany t_whichOne t_whichTwo t_traceNow t_comes)) (va_runV (As := [.int p_p]) (rest := []) ⟨hx, hb, hml, hown, hts⟩ (c_Mo_noPerson l D cI cJ cS q_t q_t_kindOf q_t_comes q_t_wants q_t_runs q_t_readKind q_t_readComes q_t_readWants q_t_queueNow q_t_servedAt q_t_comesWas q_t_readingOf q_t_readingAt q_t_sheetSize q_t_sheetLane q_t_sheet q_t_hands t_fault t_persons t_law t_bellSet t_readAt t_readLaw t_readMany t_queueMany t_servedNow t_doneAt t_readings t_whichMany t_whichOne t_whichTwo t_traceNow p_p y1 h2 _) (cwV 1 hts gX9_come_X9_noPerson rfl rfl rfl (by decide +kernel) ⟨(Nat.le_of_ble_eq_true rfl), (Nat.le_of_ble_eq_true rfl)⟩) (pre_V hK hP hD [0] rfl rfl rfl rfl) rfl rfl hl.1 rfl (lv_room (Nat.le_of_ble_eq_true rfl)) dX9_come_2 ⟨Nat.zero_le _, Nat.zero_le _⟩) hP hD hS hA [0] [1] [1, 0] rfl rfl rfl (by decide) rfl rfl (fun H locs hP hD hS => ?_)
  refine lv_if_eq (tgt := 10) hx hb dX9_come_5 (by decide) (fun c3 => ?_) (fun c3 => ?_)
  · have hM := (o_if hM).1 c3
    refine lv_iload_n hx hb dX9_come_10 rfl (lv_at hl 2 rfl) ?_
    obtain ⟨y4, h5, hM⟩ := o_bd hM
    refine af_i (ws2 := (w_Mo_come cI cJ cS q_t q_t_kindOf q_t_comes q_t_wants q_t_runs q_t_readKind q_t_readComes q_t_readWants q_t_queueNow q_t_servedAt q_t_comesWas q_t_readingOf q_t_readingAt q_t_sheetSize q_t_sheetLane q_t_sheet q_t_hands t_fault t_persons t_law t_bellSet t_readAt t_readLaw t_readMany t_queueMany t_servedNow t_doneAt t_readings t_whichMany t_whichOne t_whichTwo t_traceNow t_comes)) (va_runS (As := [.int p_minute]) (rest := []) ⟨hx, hb, hml, hown, hts⟩ (c_Mo_isMinute l D cI cJ cS p_minute y4 h5 _) (va_cwS 1 hts gX9_come_X9_isMinute rfl rfl rfl (by decide +kernel) ⟨(Nat.le_of_ble_eq_true rfl), (Nat.le_of_ble_eq_true rfl)⟩) (pre_S hK hP hD [] rfl rfl) rfl rfl hl.1 rfl (lv_room (Nat.le_of_ble_eq_true rfl)) dX9_come_11 ⟨Nat.zero_le _, Nat.zero_le _⟩) hP hD hS hA [] [0, 1] [0, 1] rfl rfl rfl (by decide) rfl rfl (fun H locs hP hD hS => ?_)
    refine lv_if_ne (tgt := 20) hx hb dX9_come_14 (by decide) (fun c6 => ?_) (fun c6 => ?_)
    · have hM := (o_if hM).2 c6
      refine lv_aload_n hx hb dX9_come_20 rfl (lv_at hl 0 rfl) ?_
      refine va_get (ci := 8) (v := .ref q_t_comes) (C := RX9) (T := TX9) (N := 31) hx hb hts iX9 hown hK.1 hP 0 rfl rfl 4 (Nat.le_of_ble_eq_true rfl) k0 (fun _ h9 => h9) rfl dX9_come_21 ?_
      refine lv_iload_n hx hb dX9_come_24 rfl (lv_at hl 1 rfl) ?_
      obtain ⟨h7, hM⟩ := o_ck hM
      refine va_iald hx hb hK.1 hP 1 0 rfl rfl h7 dX9_come_25 ?_
      refine lv_topi (fun y8 ey8 => ?_)
      have hM := o_lt hM y8 ey8
      refine lv_istore_n (lv' := [(3, .int y8), (0, .ref q_t), (1, .int p_p), (2, .int p_minute)]) hx hb dX9_come_26 rfl hl (Nat.le_of_ble_eq_true rfl) rfl (fun ls hl => ?_)
      refine lv_aload_n hx hb dX9_come_27 rfl (lv_at hl 1 rfl) ?_
      refine va_get (ci := 8) (v := .ref q_t_comes) (C := RX9) (T := TX9) (N := 31) hx hb hts iX9 hown hK.1 hP 0 rfl rfl 4 (Nat.le_of_ble_eq_true rfl) k0 (fun _ h9 => h9) rfl dX9_come_28 ?_
      refine lv_iload_n hx hb dX9_come_31 rfl (lv_at hl 2 rfl) ?_
      refine lv_iload_n hx hb dX9_come_32 rfl (lv_at hl 3 rfl) ?_
      obtain ⟨h9, hM⟩ := o_ck hM
      refine va_iast hx hb hK.1 hP hD hS 1 0 rfl rfl h9 dX9_come_33 (fun H locs hP hD hS => ?_)
      have hP : va_P D vwCl (w_Mo_come cI cJ cS q_t q_t_kindOf q_t_comes q_t_wants q_t_runs q_t_readKind q_t_readComes q_t_readWants q_t_queueNow q_t_servedAt q_t_comesWas q_t_readingOf q_t_readingAt q_t_sheetSize q_t_sheetLane q_t_sheet q_t_hands t_fault t_persons t_law t_bellSet t_readAt t_readLaw t_readMany t_queueMany t_servedNow t_doneAt t_readings t_whichMany t_whichOne t_whichTwo t_traceNow (upd t_comes p_p.toNatClampNeg p_minute)) H := hP
      have hD : va_D A (w_Mo_come cI cJ cS q_t q_t_kindOf q_t_comes q_t_wants q_t_runs q_t_readKind q_t_readComes q_t_readWants q_t_queueNow q_t_servedAt q_t_comesWas q_t_readingOf q_t_readingAt q_t_sheetSize q_t_sheetLane q_t_sheet q_t_hands t_fault t_persons t_law t_bellSet t_readAt t_readLaw t_readMany t_queueMany t_servedNow t_doneAt t_readings t_whichMany t_whichOne t_whichTwo t_traceNow (upd t_comes p_p.toNatClampNeg p_minute)) := hD
      refine lv_iload_n hx hb dX9_come_34 rfl (lv_at hl 0 rfl) ?_
      have hM := (Option.some.inj hM)
      subst hM
      exact rt_i hx hb hr hlocks hP hD hS dX9_come_35
    · have hM := (o_if hM).1 c6
      refine lv_bipush (v := (-2)) hx hb dX9_come_17 (by decide) ?_
      have hM := (Option.some.inj hM)
      subst hM
      exact rt_i hx hb hr hlocks hP hD hS dX9_come_19
  · have hM := (o_if hM).2 c3
    refine lv_iconst (v := (-1)) hx hb dX9_come_8 (by decide) ?_
    have hM := (Option.some.inj hM)
    subst hM
    exact rt_i hx hb hr hlocks hP hD hS dX9_come_9
/-! ===== TurnQueueModel.runOut ===== -/
abbrev w_Mo_runOut (cI cJ cS : ClassId) (q_t : Nat) (q_t_kindOf : Nat) (q_t_comes : Nat) (q_t_wants : Nat) (q_t_runs : Nat) (q_t_readKind : Nat) (q_t_readComes : Nat) (q_t_readWants : Nat) (q_t_queueNow : Nat) (q_t_servedAt : Nat) (q_t_comesWas : Nat) (q_t_readingOf : Nat) (q_t_readingAt : Nat) (q_t_sheetSize : Nat) (q_t_sheetLane : Nat) (q_t_sheet : Nat) (q_t_hands : Nat) (t_fault : Int32) (t_persons : Int32) (t_law : Int32) (t_bellSet : Int64) (t_readAt : Int32) (t_readLaw : Int32) (t_readMany : Int32) (t_queueMany : Int32) (t_servedNow : Int32) (t_doneAt : Int32) (t_readings : Int32) (t_whichMany : Int32) (t_whichOne : Int32) (t_whichTwo : Int32) (t_traceNow : Int32) (t_runs : Nat → Int32) : va_W := [(q_t, .inr (8, [.int t_fault, .int t_persons, .int t_law, .ref q_t_kindOf, .ref q_t_comes, .ref q_t_wants, .ref q_t_runs, .long t_bellSet, .int t_readAt, .int t_readLaw, .int t_readMany, .ref q_t_readKind, .ref q_t_readComes, .ref q_t_readWants, .ref q_t_queueNow, .int t_queueMany, .int t_servedNow, .int t_doneAt, .ref q_t_servedAt, .ref q_t_comesWas, .int t_readings, .ref q_t_readingOf, .ref q_t_readingAt, .int t_whichMany, .int t_whichOne, .int t_whichTwo, .ref q_t_sheetSize, .ref q_t_sheetLane, .ref q_t_sheet, .ref q_t_hands, .int t_traceNow])), (q_t_runs, ar cI 7 t_runs)]
abbrev rm_Mo_runOut : Room := { frames := 2, cells := 0, slots := 0, locals := 46 }
noncomputable def Mo_runOut_j26 (p_p : Int32) (p_minute : Int32) (t_persons : Int32) (t_runs : Nat → Int32) : Option (Int32 × (Nat → Int32)) :=
  if ck p_p 7 = true then
    lt (t_runs p_p.toNatClampNeg) fun y6 =>
    if ck p_p 7 = true then
      some (y6, upd t_runs p_p.toNatClampNeg p_minute)
    else none
  else none
noncomputable def Mo_runOut (p_p : Int32) (p_minute : Int32) (t_persons : Int32) (t_runs : Nat → Int32) : Option (Int32 × (Nat → Int32)) :=
  (Mo_noPerson p_p t_persons).bind fun y1 =>
  if y1 = 0 then
    if p_minute = (-9) then
      Mo_runOut_j26 p_p p_minute t_persons t_runs
    else
      (Mo_isMinute p_minute).bind fun y8 =>
      if y8 = 0 then
        some ((-2), t_runs)
      else
        Mo_runOut_j26 p_p p_minute t_persons t_runs
  else
    some ((-1), t_runs)
set_option maxRecDepth 100000 in
set_option maxHeartbeats 4000000 in
theorem c_Mo_runOut (l : Launch) (D : va_G) (cI cJ cS : ClassId) (q_t q_t_kindOf q_t_comes q_t_wants q_t_runs q_t_readKind q_t_readComes q_t_readWants q_t_queueNow q_t_servedAt q_t_comesWas q_t_readingOf q_t_readingAt q_t_sheetSize q_t_sheetLane q_t_sheet q_t_hands : Nat) (t_fault : Int32) (t_persons : Int32) (t_law : Int32) (t_bellSet : Int64) (t_readAt : Int32) (t_readLaw : Int32) (t_readMany : Int32) (t_queueMany : Int32) (t_servedNow : Int32) (t_doneAt : Int32) (t_readings : Int32) (t_whichMany : Int32) (t_whichOne : Int32) (t_whichTwo : Int32) (t_traceNow : Int32) (t_runs : Nat → Int32) (p_p : Int32) (p_minute : Int32) (o : Int32 × (Nat → Int32)) (hM : Mo_runOut p_p p_minute t_persons t_runs = some o) : Ci l yX9_runOut wsX9_runOut rm_Mo_runOut D cI cJ cS [.ref q_t, .int p_p, .int p_minute] (w_Mo_runOut cI cJ cS q_t q_t_kindOf q_t_comes q_t_wants q_t_runs q_t_readKind q_t_readComes q_t_readWants q_t_queueNow q_t_servedAt q_t_comesWas q_t_readingOf q_t_readingAt q_t_sheetSize q_t_sheetLane q_t_sheet q_t_hands t_fault t_persons t_law t_bellSet t_readAt t_readLaw t_readMany t_queueMany t_servedNow t_doneAt t_readings t_whichMany t_whichOne t_whichTwo t_traceNow t_runs) (w_Mo_runOut cI cJ cS q_t q_t_kindOf q_t_comes q_t_wants q_t_runs q_t_readKind q_t_readComes q_t_readWants q_t_queueNow q_t_servedAt q_t_comesWas q_t_readingOf q_t_readingAt q_t_sheetSize q_t_sheetLane q_t_sheet q_t_hands t_fault t_persons t_law t_bellSet t_readAt t_readLaw t_readMany t_queueMany t_servedNow t_doneAt t_readings t_whichMany t_whichOne t_whichTwo t_traceNow o.2) o.1 := by
  refine Ci.of (cc := cX9_runOut) (maxL := 4) (ret := (some .int)) (by decide) rfl (Nat.le_of_ble_eq_true rfl) ?_
  intro p e s m args below meth c A ls hE
  obtain ⟨hx, hb, hr, hml, hown, hts, hlocks, hK, hA, hP, hD, hS, hl⟩ := hE
  have hown : s.vm.findClass RX9 = some m.cls := hown
  have hl : lv_has ls 4 [(0, .ref q_t), (1, .int p_p), (2, .int p_minute)] := hl
  have iX9 : ∀ w ∈ u_ws RX9 TX9 31, w ∈ wsX9_runOut := by decide +kernel
  have k0 := hts (.fieldLink RX9 19 "TurnQueueModel" "runs" "[I") (by decide +kernel)
  have J26 : ∀ (t_runs : Nat → Int32), Mo_runOut_j26 p_p p_minute t_persons t_runs = some o → ∀ (H : Heap) (locs : List Loc), va_P D vwCl (w_Mo_runOut cI cJ cS q_t q_t_kindOf q_t_comes q_t_wants q_t_runs q_t_readKind q_t_readComes q_t_readWants q_t_queueNow q_t_servedAt q_t_comesWas q_t_readingOf q_t_readingAt q_t_sheetSize q_t_sheetLane q_t_sheet q_t_hands t_fault t_persons t_law t_bellSet t_readAt t_readLaw t_readMany t_queueMany t_servedNow t_doneAt t_readings t_whichMany t_whichOne t_whichTwo t_traceNow t_runs) H → va_D A (w_Mo_runOut cI cJ cS q_t q_t_kindOf q_t_comes q_t_wants q_t_runs q_t_readKind q_t_readComes q_t_readWants q_t_queueNow q_t_servedAt q_t_comesWas q_t_readingOf q_t_readingAt q_t_sheetSize q_t_sheetLane q_t_sheet q_t_hands t_fault t_persons t_law t_bellSet t_readAt t_readLaw t_readMany t_queueMany t_servedNow t_doneAt t_readings t_whichMany t_whichOne t_whichTwo t_traceNow t_runs) → va_S A s.heap H locs → ∀ ls : Array Slot, lv_has ls 4 [(0, .ref q_t), (1, .int p_p), (2, .int p_minute)] → W p l e (headSpec wsX9_runOut rm_Mo_runOut).room s m args below meth c H locs 0 0 (MQ below (CQi D (w_Mo_runOut cI cJ cS q_t q_t_kindOf q_t_comes q_t_wants q_t_runs q_t_readKind q_t_readComes q_t_readWants q_t_queueNow q_t_servedAt q_t_comesWas q_t_readingOf q_t_readingAt q_t_sheetSize q_t_sheetLane q_t_sheet q_t_hands t_fault t_persons t_law t_bellSet t_readAt t_readLaw t_readMany t_queueMany t_servedNow t_doneAt t_readings t_whichMany t_whichOne t_whichTwo t_traceNow o.2) A o.1) args s 0 0 A) (F0 m 26 ls []) := by
    intro t_runs hM H locs hP hD hS ls hl
    unfold Mo_runOut_j26 at hM
    refine lv_aload_n hx hb dX9_runOut_26 rfl (lv_at hl 0 rfl) ?_
    refine va_get (ci := 8) (v := .ref q_t_runs) (C := RX9) (T := TX9) (N := 31) hx hb hts iX9 hown hK.1 hP 0 rfl rfl 6 (Nat.le_of_ble_eq_true rfl) k0 (fun _ h9 => h9) rfl dX9_runOut_27 ?_
    refine lv_iload_n hx hb dX9_runOut_30 rfl (lv_at hl 1 rfl) ?_
    obtain ⟨h5, hM⟩ := o_ck hM
    refine va_iald hx hb hK.1 hP 1 0 rfl rfl h5 dX9_runOut_31 ?_
    refine lv_topi (fun y6 ey6 => ?_)
    have hM := o_lt hM y6 ey6
    refine lv_istore_n (lv' := [(3, .int y6), (0, .ref q_t), (1, .int p_p), (2, .int p_minute)]) hx hb dX9_runOut_32 rfl hl (Nat.le_of_ble_eq_true rfl) rfl (fun ls hl => ?_)
    refine lv_aload_n hx hb dX9_runOut_33 rfl (lv_at hl 1 rfl) ?_
    refine va_get (ci := 8) (v := .ref q_t_runs) (C := RX9) (T := TX9) (N := 31) hx hb hts iX9 hown hK.1 hP 0 rfl rfl 6 (Nat.le_of_ble_eq_true rfl) k0 (fun _ h9 => h9) rfl dX9_runOut_34 ?_
    refine lv_iload_n hx hb dX9_runOut_37 rfl (lv_at hl 2 rfl) ?_
    refine lv_iload_n hx hb dX9_runOut_38 rfl (lv_at hl 3 rfl) ?_
    obtain ⟨h7, hM⟩ := o_ck hM
    refine va_iast hx hb hK.1 hP hD hS 1 0 rfl rfl h7 dX9_runOut_39 (fun H locs hP hD hS => ?_)
    have hP : va_P D vwCl (w_Mo_runOut cI cJ cS q_t q_t_kindOf q_t_comes q_t_wants q_t_runs q_t_readKind q_t_readComes q_t_readWants q_t_queueNow q_t_servedAt q_t_comesWas q_t_readingOf q_t_readingAt q_t_sheetSize q_t_sheetLane q_t_sheet q_t_hands t_fault t_persons t_law t_bellSet t_readAt t_readLaw t_readMany t_queueMany t_servedNow t_doneAt t_readings t_whichMany t_whichOne t_whichTwo t_traceNow (upd t_runs p_p.toNatClampNeg p_minute)) H := hP
    have hD : va_D A (w_Mo_runOut cI cJ cS q_t q_t_kindOf q_t_comes q_t_wants q_t_runs q_t_readKind q_t_readComes q_t_readWants q_t_queueNow q_t_servedAt q_t_comesWas q_t_readingOf q_t_readingAt q_t_sheetSize q_t_sheetLane q_t_sheet q_t_hands t_fault t_persons t_law t_bellSet t_readAt t_readLaw t_readMany t_queueMany t_servedNow t_doneAt t_readings t_whichMany t_whichOne t_whichTwo t_traceNow (upd t_runs p_p.toNatClampNeg p_minute)) := hD
    refine lv_iload_n hx hb dX9_runOut_40 rfl (lv_at hl 0 rfl) ?_
    have hM := (Option.some.inj hM)
    subst hM
    exact rt_i hx hb hr hlocks hP hD hS dX9_runOut_41
  unfold Mo_runOut at hM
  refine lv_aload_n hx hb dX9_runOut_0 rfl (lv_at hl 0 rfl) ?_
  refine lv_iload_n hx hb dX9_runOut_1 rfl (lv_at hl 1 rfl) ?_
  obtain ⟨y1, h2, hM⟩ := o_bd hM
  refine af_i (ws2 := (w_Mo_runOut cI cJ cS q_t q_t_kindOf q_t_comes q_t_wants q_t_runs q_t_readKind q_t_readComes q_t_readWants q_t_queueNow q_t_servedAt q_t_comesWas q_t_readingOf q_t_readingAt q_t_sheetSize q_t_sheetLane q_t_sheet q_t_hands t_fault t_persons t_law t_bellSet t_readAt t_readLaw t_readMany t_queueMany t_servedNow t_doneAt t_readings t_whichMany t_whichOne t_whichTwo t_traceNow t_runs)) (va_runV (As := [.int p_p]) (rest := []) ⟨hx, hb, hml, hown, hts⟩ (c_Mo_noPerson l D cI cJ cS q_t q_t_kindOf q_t_comes q_t_wants q_t_runs q_t_readKind q_t_readComes q_t_readWants q_t_queueNow q_t_servedAt q_t_comesWas q_t_readingOf q_t_readingAt q_t_sheetSize q_t_sheetLane q_t_sheet q_t_hands t_fault t_persons t_law t_bellSet t_readAt t_readLaw t_readMany t_queueMany t_servedNow t_doneAt t_readings t_whichMany t_whichOne t_whichTwo t_traceNow p_p y1 h2 _) (cwV 1 hts gX9_runOut_X9_noPerson rfl rfl rfl (by decide +kernel) ⟨(Nat.le_of_ble_eq_true rfl), (Nat.le_of_ble_eq_true rfl)⟩) (pre_V hK hP hD [0] rfl rfl rfl rfl) rfl rfl hl.1 rfl (lv_room (Nat.le_of_ble_eq_true rfl)) dX9_runOut_2 ⟨Nat.zero_le _, Nat.zero_le _⟩) hP hD hS hA [0] [1] [1, 0] rfl rfl rfl (by decide) rfl rfl (fun H locs hP hD hS => ?_)
  refine lv_if_eq (tgt := 10) hx hb dX9_runOut_5 (by decide) (fun c3 => ?_) (fun c3 => ?_)
  · have hM := (o_if hM).1 c3
    refine lv_iload_n hx hb dX9_runOut_10 rfl (lv_at hl 2 rfl) ?_
    refine lv_bipush (v := (-9)) hx hb dX9_runOut_11 (by decide) ?_
    refine lv_icmp_eq (tgt := 26) hx hb dX9_runOut_13 (by decide) (fun c4 => ?_) (fun c4 => ?_)
    · have hM := (o_if hM).1 c4
      exact J26 t_runs hM _ _ hP hD hS _ (lv_sub hl [0, 1, 2] rfl)
    · have hM := (o_if hM).2 c4
      refine lv_iload_n hx hb dX9_runOut_16 rfl (lv_at hl 2 rfl) ?_
      obtain ⟨y8, h9, hM⟩ := o_bd hM
      refine af_i (ws2 := (w_Mo_runOut cI cJ cS q_t q_t_kindOf q_t_comes q_t_wants q_t_runs q_t_readKind q_t_readComes q_t_readWants q_t_queueNow q_t_servedAt q_t_comesWas q_t_readingOf q_t_readingAt q_t_sheetSize q_t_sheetLane q_t_sheet q_t_hands t_fault t_persons t_law t_bellSet t_readAt t_readLaw t_readMany t_queueMany t_servedNow t_doneAt t_readings t_whichMany t_whichOne t_whichTwo t_traceNow t_runs)) (va_runS (As := [.int p_minute]) (rest := []) ⟨hx, hb, hml, hown, hts⟩ (c_Mo_isMinute l D cI cJ cS p_minute y8 h9 _) (va_cwS 1 hts gX9_runOut_X9_isMinute rfl rfl rfl (by decide +kernel) ⟨(Nat.le_of_ble_eq_true rfl), (Nat.le_of_ble_eq_true rfl)⟩) (pre_S hK hP hD [] rfl rfl) rfl rfl hl.1 rfl (lv_room (Nat.le_of_ble_eq_true rfl)) dX9_runOut_17 ⟨Nat.zero_le _, Nat.zero_le _⟩) hP hD hS hA [] [0, 1] [0, 1] rfl rfl rfl (by decide) rfl rfl (fun H locs hP hD hS => ?_)
      refine lv_if_ne (tgt := 26) hx hb dX9_runOut_20 (by decide) (fun c10 => ?_) (fun c10 => ?_)
      · have hM := (o_if hM).2 c10
        exact J26 t_runs hM _ _ hP hD hS _ (lv_sub hl [0, 1, 2] rfl)
      · have hM := (o_if hM).1 c10
        refine lv_bipush (v := (-2)) hx hb dX9_runOut_23 (by decide) ?_
        have hM := (Option.some.inj hM)
        subst hM
        exact rt_i hx hb hr hlocks hP hD hS dX9_runOut_25
  · have hM := (o_if hM).2 c3
    refine lv_iconst (v := (-1)) hx hb dX9_runOut_8 (by decide) ?_
    have hM := (Option.some.inj hM)
    subst hM
    exact rt_i hx hb hr hlocks hP hD hS dX9_runOut_9
/-! ===== TurnQueueModel.isBell ===== -/
abbrev w_Mo_isBell (cI cJ cS : ClassId) : va_W := []
abbrev rm_Mo_isBell : Room := { frames := 0, cells := 0, slots := 0, locals := 0 }
noncomputable def Mo_isBell (p_set : Int64) (p_minute : Int32) : Option (Int32) :=
  if 60 ≤ p_minute then
    some 0
  else
    if (lg_cmp ((p_set >>> (p_minute.toInt64 &&& 63)) &&& 1) 1) = 0 then
      some 1
    else
      some 0
set_option maxRecDepth 100000 in
set_option maxHeartbeats 4000000 in
theorem c_Mo_isBell (l : Launch) (D : va_G) (cI cJ cS : ClassId) (p_set : Int64) (p_minute : Int32) (o : Int32) (hM : Mo_isBell p_set p_minute = some o) : Ci l yX9_isBell wsX9_isBell rm_Mo_isBell D cI cJ cS [.long p_set, .int p_minute] (w_Mo_isBell cI cJ cS) (w_Mo_isBell cI cJ cS) o := by
  refine Ci.of (cc := cX9_isBell) (maxL := 3) (ret := (some .boolean)) (by decide) rfl (Nat.le_of_ble_eq_true rfl) ?_
  intro p e s m args below meth c A ls hE
  obtain ⟨hx, hb, hr, hml, hown, hts, hlocks, hK, hA, hP, hD, hS, hl⟩ := hE
  have hown : s.vm.findClass RX9 = some m.cls := hown
  have hl : lv_has ls 3 [(0, .long p_set), (2, .int p_minute)] := hl
  unfold Mo_isBell at hM
  refine lv_iload_n hx hb dX9_isBell_0 rfl (lv_at hl 1 rfl) ?_
  refine lv_bipush (v := 60) hx hb dX9_isBell_1 (by decide) ?_
  refine lv_icmp_ge (tgt := 20) hx hb dX9_isBell_3 (by decide) (fun c1 => ?_) (fun c1 => ?_)
  · have hM := (o_if hM).1 c1
    refine lv_iconst (v := 0) hx hb dX9_isBell_20 (by decide) ?_
    have hM := (Option.some.inj hM)
    subst hM
    exact rt_z hx hb hr hlocks hP hD hS (show narrow .boolean (.int 0) = .int 0 from rfl) dX9_isBell_21
  · have hM := (o_if hM).2 c1
    refine lv_lload_n hx hb dX9_isBell_6 rfl (lv_at hl 0 rfl) ?_
    refine lv_iload_n hx hb dX9_isBell_7 rfl (lv_at hl 1 rfl) ?_
    refine lv_lshr (v := p_set >>> (p_minute.toInt64 &&& 63)) hx hb dX9_isBell_8 rfl ?_
    refine lv_lconst (v := 1) hx hb dX9_isBell_9 (by decide) ?_
    refine lv_land hx hb dX9_isBell_10 ?_
    refine lv_lconst (v := 1) hx hb dX9_isBell_11 (by decide) ?_
    refine W.lcmp hx hb dX9_isBell_12 ?_
    refine lv_if_ne (tgt := 20) hx hb dX9_isBell_13 (by decide) (fun c2 => ?_) (fun c2 => ?_)
    · have hM := (o_if hM).2 c2
      refine lv_iconst (v := 0) hx hb dX9_isBell_20 (by decide) ?_
      have hM := (Option.some.inj hM)
      subst hM
      exact rt_z hx hb hr hlocks hP hD hS (show narrow .boolean (.int 0) = .int 0 from rfl) dX9_isBell_21
    · have hM := (o_if hM).1 c2
      refine lv_iconst (v := 1) hx hb dX9_isBell_16 (by decide) ?_
      refine lv_goto (tgt := 21) hx hb dX9_isBell_17 (by decide) ?_
      have hM := (Option.some.inj hM)
      subst hM
      exact rt_z hx hb hr hlocks hP hD hS (show narrow .boolean (.int 1) = .int 1 from rfl) dX9_isBell_21
/-! ===== TurnQueueModel.bell ===== -/
abbrev w_Mo_bell (cI cJ cS : ClassId) (q_t : Nat) (q_t_kindOf : Nat) (q_t_comes : Nat) (q_t_wants : Nat) (q_t_runs : Nat) (q_t_readKind : Nat) (q_t_readComes : Nat) (q_t_readWants : Nat) (q_t_queueNow : Nat) (q_t_servedAt : Nat) (q_t_comesWas : Nat) (q_t_readingOf : Nat) (q_t_readingAt : Nat) (q_t_sheetSize : Nat) (q_t_sheetLane : Nat) (q_t_sheet : Nat) (q_t_hands : Nat) (t_fault : Int32) (t_persons : Int32) (t_law : Int32) (t_bellSet : Int64) (t_readAt : Int32) (t_readLaw : Int32) (t_readMany : Int32) (t_queueMany : Int32) (t_servedNow : Int32) (t_doneAt : Int32) (t_readings : Int32) (t_whichMany : Int32) (t_whichOne : Int32) (t_whichTwo : Int32) (t_traceNow : Int32) : va_W := [(q_t, .inr (8, [.int t_fault, .int t_persons, .int t_law, .ref q_t_kindOf, .ref q_t_comes, .ref q_t_wants, .ref q_t_runs, .long t_bellSet, .int t_readAt, .int t_readLaw, .int t_readMany, .ref q_t_readKind, .ref q_t_readComes, .ref q_t_readWants, .ref q_t_queueNow, .int t_queueMany, .int t_servedNow, .int t_doneAt, .ref q_t_servedAt, .ref q_t_comesWas, .int t_readings, .ref q_t_readingOf, .ref q_t_readingAt, .int t_whichMany, .int t_whichOne, .int t_whichTwo, .ref q_t_sheetSize, .ref q_t_sheetLane, .ref q_t_sheet, .ref q_t_hands, .int t_traceNow]))]
abbrev rm_Mo_bell : Room := { frames := 2, cells := 0, slots := 0, locals := 45 }
noncomputable def Mo_bell_j59 (p_minute : Int32) (p_is : Int32) (t_persons : Int32) (x3 : Int32) (s1 : Int64) (t_bellSet : Int64) : Option (Int32 × Int64) :=
  if x3 = p_is then
    some (0, s1)
  else
    some (1, s1)
noncomputable def Mo_bell (p_minute : Int32) (p_is : Int32) (t_persons : Int32) (t_bellSet : Int64) : Option (Int32 × Int64) :=
  (Mo_isMinute p_minute).bind fun y1 =>
  if y1 = 0 then
    some ((-1), t_bellSet)
  else
    if t_persons = 0 then
      some ((-3), t_bellSet)
    else
      (Mo_isBell t_bellSet p_minute).bind fun y5 =>
      lt ((1 : Int64) <<< (p_minute.toInt64 &&& 63)) fun y7 =>
      if p_is = 0 then
        Mo_bell_j59 p_minute p_is t_persons y5 (t_bellSet &&& (y7 ^^^ (-1))) t_bellSet
      else
        Mo_bell_j59 p_minute p_is t_persons y5 (t_bellSet ||| y7) t_bellSet
set_option maxRecDepth 100000 in
set_option maxHeartbeats 4000000 in
theorem c_Mo_bell (l : Launch) (D : va_G) (cI cJ cS : ClassId) (q_t q_t_kindOf q_t_comes q_t_wants q_t_runs q_t_readKind q_t_readComes q_t_readWants q_t_queueNow q_t_servedAt q_t_comesWas q_t_readingOf q_t_readingAt q_t_sheetSize q_t_sheetLane q_t_sheet q_t_hands : Nat) (t_fault : Int32) (t_persons : Int32) (t_law : Int32) (t_bellSet : Int64) (t_readAt : Int32) (t_readLaw : Int32) (t_readMany : Int32) (t_queueMany : Int32) (t_servedNow : Int32) (t_doneAt : Int32) (t_readings : Int32) (t_whichMany : Int32) (t_whichOne : Int32) (t_whichTwo : Int32) (t_traceNow : Int32) (p_minute : Int32) (p_is : Int32) (o : Int32 × Int64) (hM : Mo_bell p_minute p_is t_persons t_bellSet = some o) : Ci l yX9_bell wsX9_bell rm_Mo_bell D cI cJ cS [.ref q_t, .int p_minute, .int p_is] (w_Mo_bell cI cJ cS q_t q_t_kindOf q_t_comes q_t_wants q_t_runs q_t_readKind q_t_readComes q_t_readWants q_t_queueNow q_t_servedAt q_t_comesWas q_t_readingOf q_t_readingAt q_t_sheetSize q_t_sheetLane q_t_sheet q_t_hands t_fault t_persons t_law t_bellSet t_readAt t_readLaw t_readMany t_queueMany t_servedNow t_doneAt t_readings t_whichMany t_whichOne t_whichTwo t_traceNow) (w_Mo_bell cI cJ cS q_t q_t_kindOf q_t_comes q_t_wants q_t_runs q_t_readKind q_t_readComes q_t_readWants q_t_queueNow q_t_servedAt q_t_comesWas q_t_readingOf q_t_readingAt q_t_sheetSize q_t_sheetLane q_t_sheet q_t_hands t_fault t_persons t_law o.2 t_readAt t_readLaw t_readMany t_queueMany t_servedNow t_doneAt t_readings t_whichMany t_whichOne t_whichTwo t_traceNow) o.1 := by
  refine Ci.of (cc := cX9_bell) (maxL := 6) (ret := (some .int)) (by decide) rfl (Nat.le_of_ble_eq_true rfl) ?_
  intro p e s m args below meth c A ls hE
  obtain ⟨hx, hb, hr, hml, hown, hts, hlocks, hK, hA, hP, hD, hS, hl⟩ := hE
  have hown : s.vm.findClass RX9 = some m.cls := hown
  have hl : lv_has ls 6 [(0, .ref q_t), (1, .int p_minute), (2, .int p_is)] := hl
  have iX9 : ∀ w ∈ u_ws RX9 TX9 31, w ∈ wsX9_bell := by decide +kernel
  have k0 := hts (.fieldLink RX9 68 "TurnQueueModel" "persons" "I") (by decide +kernel)
  have k1 := hts (.fieldLink RX9 121 "TurnQueueModel" "bellSet" "J") (by decide +kernel)
  have k2 := hts (.constantLong RX9 138 (-1)) (by decide +kernel)
  have J59 : ∀ (x3 : Int32) (s1 : Int64) (t_bellSet : Int64), Mo_bell_j59 p_minute p_is t_persons x3 s1 t_bellSet = some o → ∀ (H : Heap) (locs : List Loc), va_P D vwCl (w_Mo_bell cI cJ cS q_t q_t_kindOf q_t_comes q_t_wants q_t_runs q_t_readKind q_t_readComes q_t_readWants q_t_queueNow q_t_servedAt q_t_comesWas q_t_readingOf q_t_readingAt q_t_sheetSize q_t_sheetLane q_t_sheet q_t_hands t_fault t_persons t_law t_bellSet t_readAt t_readLaw t_readMany t_queueMany t_servedNow t_doneAt t_readings t_whichMany t_whichOne t_whichTwo t_traceNow) H → va_D A (w_Mo_bell cI cJ cS q_t q_t_kindOf q_t_comes q_t_wants q_t_runs q_t_readKind q_t_readComes q_t_readWants q_t_queueNow q_t_servedAt q_t_comesWas q_t_readingOf q_t_readingAt q_t_sheetSize q_t_sheetLane q_t_sheet q_t_hands t_fault t_persons t_law t_bellSet t_readAt t_readLaw t_readMany t_queueMany t_servedNow t_doneAt t_readings t_whichMany t_whichOne t_whichTwo t_traceNow) → va_S A s.heap H locs → ∀ ls : Array Slot, lv_has ls 6 [(2, .int p_is), (3, .int x3)] → W p l e (headSpec wsX9_bell rm_Mo_bell).room s m args below meth c H locs 0 0 (MQ below (CQi D (w_Mo_bell cI cJ cS q_t q_t_kindOf q_t_comes q_t_wants q_t_runs q_t_readKind q_t_readComes q_t_readWants q_t_queueNow q_t_servedAt q_t_comesWas q_t_readingOf q_t_readingAt q_t_sheetSize q_t_sheetLane q_t_sheet q_t_hands t_fault t_persons t_law o.2 t_readAt t_readLaw t_readMany t_queueMany t_servedNow t_doneAt t_readings t_whichMany t_whichOne t_whichTwo t_traceNow) A o.1) args s 0 0 A) (F0 m 59 ls [.long s1, .ref q_t]) := by
    intro x3 s1 t_bellSet hM H locs hP hD hS ls hl
    unfold Mo_bell_j59 at hM
    refine va_put (ci := 8) (v := .long s1) (ty := .long) (C := RX9) (T := TX9) (N := 31) hx hb hts iX9 tyX9 tyX9_ok nmX9 hown hK.1 hP hD hS 0 rfl rfl 7 (Nat.le_of_ble_eq_true rfl) k1 (fun _ h9 => h9) rfl (tyX9_ok 7 (Nat.le_of_ble_eq_true rfl)) rfl rfl (Nat.le_of_ble_eq_true rfl) dX9_bell_59 (fun H locs hP hD hS => ?_)
    have hP : va_P D vwCl (w_Mo_bell cI cJ cS q_t q_t_kindOf q_t_comes q_t_wants q_t_runs q_t_readKind q_t_readComes q_t_readWants q_t_queueNow q_t_servedAt q_t_comesWas q_t_readingOf q_t_readingAt q_t_sheetSize q_t_sheetLane q_t_sheet q_t_hands t_fault t_persons t_law s1 t_readAt t_readLaw t_readMany t_queueMany t_servedNow t_doneAt t_readings t_whichMany t_whichOne t_whichTwo t_traceNow) H := hP
    have hD : va_D A (w_Mo_bell cI cJ cS q_t q_t_kindOf q_t_comes q_t_wants q_t_runs q_t_readKind q_t_readComes q_t_readWants q_t_queueNow q_t_servedAt q_t_comesWas q_t_readingOf q_t_readingAt q_t_sheetSize q_t_sheetLane q_t_sheet q_t_hands t_fault t_persons t_law s1 t_readAt t_readLaw t_readMany t_queueMany t_servedNow t_doneAt t_readings t_whichMany t_whichOne t_whichTwo t_traceNow) := hD
    refine lv_iload_n hx hb dX9_bell_62 rfl (lv_at hl 1 rfl) ?_
    refine lv_iload_n hx hb dX9_bell_63 rfl (lv_at hl 0 rfl) ?_
    refine lv_icmp_ne (tgt := 71) hx hb dX9_bell_64 (by decide) (fun c9 => ?_) (fun c9 => ?_)
    · have hM := (o_if hM).2 c9
      refine lv_iconst (v := 1) hx hb dX9_bell_71 (by decide) ?_
      have hM := (Option.some.inj hM)
      subst hM
      exact rt_i hx hb hr hlocks hP hD hS dX9_bell_72
    · have hM := (o_if hM).1 c9
      refine lv_iconst (v := 0) hx hb dX9_bell_67 (by decide) ?_
      refine lv_goto (tgt := 72) hx hb dX9_bell_68 (by decide) ?_
      have hM := (Option.some.inj hM)
      subst hM
      exact rt_i hx hb hr hlocks hP hD hS dX9_bell_72
  unfold Mo_bell at hM
  refine lv_iload_n hx hb dX9_bell_0 rfl (lv_at hl 1 rfl) ?_
  obtain ⟨y1, h2, hM⟩ := o_bd hM
  refine af_i (ws2 := (w_Mo_bell cI cJ cS q_t q_t_kindOf q_t_comes q_t_wants q_t_runs q_t_readKind q_t_readComes q_t_readWants q_t_queueNow q_t_servedAt q_t_comesWas q_t_readingOf q_t_readingAt q_t_sheetSize q_t_sheetLane q_t_sheet q_t_hands t_fault t_persons t_law t_bellSet t_readAt t_readLaw t_readMany t_queueMany t_servedNow t_doneAt t_readings t_whichMany t_whichOne t_whichTwo t_traceNow)) (va_runS (As := [.int p_minute]) (rest := []) ⟨hx, hb, hml, hown, hts⟩ (c_Mo_isMinute l D cI cJ cS p_minute y1 h2 _) (va_cwS 1 hts gX9_bell_X9_isMinute rfl rfl rfl (by decide +kernel) ⟨(Nat.le_of_ble_eq_true rfl), (Nat.le_of_ble_eq_true rfl)⟩) (pre_S hK hP hD [] rfl rfl) rfl rfl hl.1 rfl (lv_room (Nat.le_of_ble_eq_true rfl)) dX9_bell_1 ⟨Nat.zero_le _, Nat.zero_le _⟩) hP hD hS hA [] [0] [0] rfl rfl rfl (by decide) rfl rfl (fun H locs hP hD hS => ?_)
  refine lv_if_ne (tgt := 9) hx hb dX9_bell_4 (by decide) (fun c3 => ?_) (fun c3 => ?_)
  · have hM := (o_if hM).2 c3
    refine lv_aload_n hx hb dX9_bell_9 rfl (lv_at hl 0 rfl) ?_
    refine va_get (ci := 8) (v := .int t_persons) (C := RX9) (T := TX9) (N := 31) hx hb hts iX9 hown hK.1 hP 0 rfl rfl 1 (Nat.le_of_ble_eq_true rfl) k0 (fun _ h9 => h9) rfl dX9_bell_10 ?_
    refine lv_if_ne (tgt := 19) hx hb dX9_bell_13 (by decide) (fun c4 => ?_) (fun c4 => ?_)
    · have hM := (o_if hM).2 c4
      refine lv_aload_n hx hb dX9_bell_19 rfl (lv_at hl 0 rfl) ?_
      refine va_get (ci := 8) (v := .long t_bellSet) (C := RX9) (T := TX9) (N := 31) hx hb hts iX9 hown hK.1 hP 0 rfl rfl 7 (Nat.le_of_ble_eq_true rfl) k1 (fun _ h9 => h9) rfl dX9_bell_20 ?_
      refine lv_iload_n hx hb dX9_bell_23 rfl (lv_at hl 1 rfl) ?_
      obtain ⟨y5, h6, hM⟩ := o_bd hM
      refine af_i (ws2 := (w_Mo_bell cI cJ cS q_t q_t_kindOf q_t_comes q_t_wants q_t_runs q_t_readKind q_t_readComes q_t_readWants q_t_queueNow q_t_servedAt q_t_comesWas q_t_readingOf q_t_readingAt q_t_sheetSize q_t_sheetLane q_t_sheet q_t_hands t_fault t_persons t_law t_bellSet t_readAt t_readLaw t_readMany t_queueMany t_servedNow t_doneAt t_readings t_whichMany t_whichOne t_whichTwo t_traceNow)) (va_runS (As := [.long t_bellSet, .int p_minute]) (rest := []) ⟨hx, hb, hml, hown, hts⟩ (c_Mo_isBell l D cI cJ cS t_bellSet p_minute y5 h6 _) (va_cwS 2 hts gX9_bell_X9_isBell rfl rfl rfl (by decide +kernel) ⟨(Nat.le_of_ble_eq_true rfl), (Nat.le_of_ble_eq_true rfl)⟩) (pre_S hK hP hD [] rfl rfl) rfl rfl hl.1 rfl (lv_room (Nat.le_of_ble_eq_true rfl)) dX9_bell_24 ⟨Nat.zero_le _, Nat.zero_le _⟩) hP hD hS hA [] [0] [0] rfl rfl rfl (by decide) rfl rfl (fun H locs hP hD hS => ?_)
      refine lv_istore_n (lv' := [(3, .int y5), (0, .ref q_t), (1, .int p_minute), (2, .int p_is)]) hx hb dX9_bell_27 rfl hl (Nat.le_of_ble_eq_true rfl) rfl (fun ls hl => ?_)
      refine lv_lconst (v := 1) hx hb dX9_bell_28 (by decide) ?_
      refine lv_iload_n hx hb dX9_bell_29 rfl (lv_at hl 2 rfl) ?_
      refine lv_lshl (v := (1 : Int64) <<< (p_minute.toInt64 &&& 63)) hx hb dX9_bell_30 rfl ?_
      refine lv_topl (fun y7 ey7 => ?_)
      have hM := o_lt hM y7 ey7
      refine lv_lstore (lv' := [(4, .long y7), (3, .int y5), (0, .ref q_t), (1, .int p_minute), (2, .int p_is)]) hx hb dX9_bell_31 hl (Nat.le_of_ble_eq_true rfl) rfl (fun ls hl => ?_)
      refine lv_aload_n hx hb dX9_bell_33 rfl (lv_at hl 2 rfl) ?_
      refine lv_iload_n hx hb dX9_bell_34 rfl (lv_at hl 4 rfl) ?_
      refine lv_if_eq (tgt := 48) hx hb dX9_bell_35 (by decide) (fun c8 => ?_) (fun c8 => ?_)
      · have hM := (o_if hM).1 c8
        refine lv_aload_n hx hb dX9_bell_48 rfl (lv_at hl 2 rfl) ?_
        refine va_get (ci := 8) (v := .long t_bellSet) (C := RX9) (T := TX9) (N := 31) hx hb hts iX9 hown hK.1 hP 0 rfl rfl 7 (Nat.le_of_ble_eq_true rfl) k1 (fun _ h9 => h9) rfl dX9_bell_49 ?_
        refine lv_lload hx hb dX9_bell_52 (lv_at hl 0 rfl) ?_
        refine lv_ldc2 (v := (-1)) hx hb hown k2 dX9_bell_54 ?_
        refine lv_lxor hx hb dX9_bell_57 ?_
        refine lv_land hx hb dX9_bell_58 ?_
        exact J59 y5 (t_bellSet &&& (y7 ^^^ (-1))) t_bellSet hM _ _ hP hD hS _ (lv_sub hl [4, 1] rfl)
      · have hM := (o_if hM).2 c8
        refine lv_aload_n hx hb dX9_bell_38 rfl (lv_at hl 2 rfl) ?_
        refine va_get (ci := 8) (v := .long t_bellSet) (C := RX9) (T := TX9) (N := 31) hx hb hts iX9 hown hK.1 hP 0 rfl rfl 7 (Nat.le_of_ble_eq_true rfl) k1 (fun _ h9 => h9) rfl dX9_bell_39 ?_
        refine lv_lload hx hb dX9_bell_42 (lv_at hl 0 rfl) ?_
        refine lv_lor hx hb dX9_bell_44 ?_
        refine lv_goto (tgt := 59) hx hb dX9_bell_45 (by decide) ?_
        exact J59 y5 (t_bellSet ||| y7) t_bellSet hM _ _ hP hD hS _ (lv_sub hl [4, 1] rfl)
    · have hM := (o_if hM).1 c4
      refine lv_bipush (v := (-3)) hx hb dX9_bell_16 (by decide) ?_
      have hM := (Option.some.inj hM)
      subst hM
      exact rt_i hx hb hr hlocks hP hD hS dX9_bell_18
  · have hM := (o_if hM).1 c3
    refine lv_iconst (v := (-1)) hx hb dX9_bell_7 (by decide) ?_
    have hM := (Option.some.inj hM)
    subst hM
    exact rt_i hx hb hr hlocks hP hD hS dX9_bell_8
/-! ===== TurnQueueModel.bells ===== -/
abbrev w_Mo_bells (cI cJ cS : ClassId) (q_t : Nat) (q_t_kindOf : Nat) (q_t_comes : Nat) (q_t_wants : Nat) (q_t_runs : Nat) (q_t_readKind : Nat) (q_t_readComes : Nat) (q_t_readWants : Nat) (q_t_queueNow : Nat) (q_t_servedAt : Nat) (q_t_comesWas : Nat) (q_t_readingOf : Nat) (q_t_readingAt : Nat) (q_t_sheetSize : Nat) (q_t_sheetLane : Nat) (q_t_sheet : Nat) (q_t_hands : Nat) (t_fault : Int32) (t_persons : Int32) (t_law : Int32) (t_bellSet : Int64) (t_readAt : Int32) (t_readLaw : Int32) (t_readMany : Int32) (t_queueMany : Int32) (t_servedNow : Int32) (t_doneAt : Int32) (t_readings : Int32) (t_whichMany : Int32) (t_whichOne : Int32) (t_whichTwo : Int32) (t_traceNow : Int32) : va_W := [(q_t, .inr (8, [.int t_fault, .int t_persons, .int t_law, .ref q_t_kindOf, .ref q_t_comes, .ref q_t_wants, .ref q_t_runs, .long t_bellSet, .int t_readAt, .int t_readLaw, .int t_readMany, .ref q_t_readKind, .ref q_t_readComes, .ref q_t_readWants, .ref q_t_queueNow, .int t_queueMany, .int t_servedNow, .int t_doneAt, .ref q_t_servedAt, .ref q_t_comesWas, .int t_readings, .ref q_t_readingOf, .ref q_t_readingAt, .int t_whichMany, .int t_whichOne, .int t_whichTwo, .ref q_t_sheetSize, .ref q_t_sheetLane, .ref q_t_sheet, .ref q_t_hands, .int t_traceNow]))]
abbrev rm_Mo_bells : Room := { frames := 0, cells := 0, slots := 0, locals := 0 }
noncomputable def Mo_bells (t_bellSet : Int64) : Option (Int64) :=
  some t_bellSet
set_option maxRecDepth 100000 in
set_option maxHeartbeats 4000000 in
theorem c_Mo_bells (l : Launch) (D : va_G) (cI cJ cS : ClassId) (q_t q_t_kindOf q_t_comes q_t_wants q_t_runs q_t_readKind q_t_readComes q_t_readWants q_t_queueNow q_t_servedAt q_t_comesWas q_t_readingOf q_t_readingAt q_t_sheetSize q_t_sheetLane q_t_sheet q_t_hands : Nat) (t_fault : Int32) (t_persons : Int32) (t_law : Int32) (t_bellSet : Int64) (t_readAt : Int32) (t_readLaw : Int32) (t_readMany : Int32) (t_queueMany : Int32) (t_servedNow : Int32) (t_doneAt : Int32) (t_readings : Int32) (t_whichMany : Int32) (t_whichOne : Int32) (t_whichTwo : Int32) (t_traceNow : Int32) (o : Int64) (hM : Mo_bells t_bellSet = some o) : Cl l yX9_bells wsX9_bells rm_Mo_bells D cI cJ cS [.ref q_t] (w_Mo_bells cI cJ cS q_t q_t_kindOf q_t_comes q_t_wants q_t_runs q_t_readKind q_t_readComes q_t_readWants q_t_queueNow q_t_servedAt q_t_comesWas q_t_readingOf q_t_readingAt q_t_sheetSize q_t_sheetLane q_t_sheet q_t_hands t_fault t_persons t_law t_bellSet t_readAt t_readLaw t_readMany t_queueMany t_servedNow t_doneAt t_readings t_whichMany t_whichOne t_whichTwo t_traceNow) (w_Mo_bells cI cJ cS q_t q_t_kindOf q_t_comes q_t_wants q_t_runs q_t_readKind q_t_readComes q_t_readWants q_t_queueNow q_t_servedAt q_t_comesWas q_t_readingOf q_t_readingAt q_t_sheetSize q_t_sheetLane q_t_sheet q_t_hands t_fault t_persons t_law t_bellSet t_readAt t_readLaw t_readMany t_queueMany t_servedNow t_doneAt t_readings t_whichMany t_whichOne t_whichTwo t_traceNow) o := by
  refine Cl.of (cc := cX9_bells) (maxL := 1) (ret := (some .long)) (by decide) rfl (Nat.le_of_ble_eq_true rfl) ?_
  intro p e s m args below meth c A ls hE
  obtain ⟨hx, hb, hr, hml, hown, hts, hlocks, hK, hA, hP, hD, hS, hl⟩ := hE
  have hown : s.vm.findClass RX9 = some m.cls := hown
  have hl : lv_has ls 1 [(0, .ref q_t)] := hl
  have iX9 : ∀ w ∈ u_ws RX9 TX9 31, w ∈ wsX9_bells := by decide +kernel
  have k0 := hts (.fieldLink RX9 121 "TurnQueueModel" "bellSet" "J") (by decide +kernel)
  unfold Mo_bells at hM
  refine lv_aload_n hx hb dX9_bells_0 rfl (lv_at hl 0 rfl) ?_
  refine va_get (ci := 8) (v := .long t_bellSet) (C := RX9) (T := TX9) (N := 31) hx hb hts iX9 hown hK.1 hP 0 rfl rfl 7 (Nat.le_of_ble_eq_true rfl) k0 (fun _ h9 => h9) rfl dX9_bells_1 ?_
  have hM := (Option.some.inj hM)
  subst hM
  exact rt_l hx hb hr hlocks hP hD hS dX9_bells_4
/-! ===== TurnQueueModel.sheet ===== -/
abbrev w_Mo_sheet (cI cJ cS : ClassId) (q_t : Nat) (q_t_kindOf : Nat) (q_t_comes : Nat) (q_t_wants : Nat) (q_t_runs : Nat) (q_t_readKind : Nat) (q_t_readComes : Nat) (q_t_readWants : Nat) (q_t_queueNow : Nat) (q_t_servedAt : Nat) (q_t_comesWas : Nat) (q_t_readingOf : Nat) (q_t_readingAt : Nat) (q_t_sheetSize : Nat) (q_t_sheetLane : Nat) (q_t_sheet : Nat) (q_t_hands : Nat) (t_fault : Int32) (t_persons : Int32) (t_law : Int32) (t_bellSet : Int64) (t_readAt : Int32) (t_readLaw : Int32) (t_readMany : Int32) (t_queueMany : Int32) (t_servedNow : Int32) (t_doneAt : Int32) (t_readings : Int32) (t_whichMany : Int32) (t_whichOne : Int32) (t_whichTwo : Int32) (t_traceNow : Int32) (t_sheetSize : Nat → Int32) (t_sheetLane : Nat → Int32) (t_sheet : Nat → Int32) : va_W := [(q_t, .inr (8, [.int t_fault, .int t_persons, .int t_law, .ref q_t_kindOf, .ref q_t_comes, .ref q_t_wants, .ref q_t_runs, .long t_bellSet, .int t_readAt, .int t_readLaw, .int t_readMany, .ref q_t_readKind, .ref q_t_readComes, .ref q_t_readWants, .ref q_t_queueNow, .int t_queueMany, .int t_servedNow, .int t_doneAt, .ref q_t_servedAt, .ref q_t_comesWas, .int t_readings, .ref q_t_readingOf, .ref q_t_readingAt, .int t_whichMany, .int t_whichOne, .int t_whichTwo, .ref q_t_sheetSize, .ref q_t_sheetLane, .ref q_t_sheet, .ref q_t_hands, .int t_traceNow])), (q_t_sheetSize, ar cI 4 t_sheetSize), (q_t_sheetLane, ar cI 4 t_sheetLane), (q_t_sheet, ar cI 240 t_sheet)]
abbrev rm_Mo_sheet : Room := { frames := 2, cells := 0, slots := 0, locals := 45 }
noncomputable def Mo_sheet_b65 (p_k : Int32) (p_lane : Int32) (p_n : Int32) (x4 : Int32) (t_fault : Int32) (t_sheetSize : Nat → Int32) (t_sheetLane : Nat → Int32) (t_sheet : Nat → Int32) : Option ((Int32 × Int32 × (Nat → Int32) × (Nat → Int32) × (Nat → Int32)) ⊕ (Int32 × Int32 × (Nat → Int32) × (Nat → Int32) × (Nat → Int32))) :=
  if p_n ≤ x4 then
    (Mo_refused 1 t_fault).bind fun y14 =>
    some (.inr (y14.1, y14.2, t_sheetSize, t_sheetLane, t_sheet))
  else
    if ck ((60 * p_k) + x4) 240 = true then
      lt (x4 + 1) fun y17 =>
      some (.inl (y17, t_fault, t_sheetSize, t_sheetLane, upd t_sheet ((60 * p_k) + x4).toNatClampNeg 0))
    else none
noncomputable def Mo_sheet_s65 (p_k : Int32) (p_lane : Int32) (p_n : Int32) : (Int32 × Int32 × (Nat → Int32) × (Nat → Int32) × (Nat → Int32)) → Option ((Int32 × Int32 × (Nat → Int32) × (Nat → Int32) × (Nat → Int32)) ⊕ (Int32 × Int32 × (Nat → Int32) × (Nat → Int32) × (Nat → Int32))) := fun x => Mo_sheet_b65 p_k p_lane p_n x.1 x.2.1 x.2.2.1 x.2.2.2.1 x.2.2.2.2
noncomputable def Mo_sheet_l65 (p_k : Int32) (p_lane : Int32) (p_n : Int32) (x4 : Int32) (t_fault : Int32) (t_sheetSize : Nat → Int32) (t_sheetLane : Nat → Int32) (t_sheet : Nat → Int32) : Option (Int32 × Int32 × (Nat → Int32) × (Nat → Int32) × (Nat → Int32)) := fin (Mo_sheet_s65 p_k p_lane p_n) (x4, t_fault, t_sheetSize, t_sheetLane, t_sheet)
noncomputable def Mo_sheet (p_k : Int32) (p_lane : Int32) (p_n : Int32) (t_fault : Int32) (t_sheetSize : Nat → Int32) (t_sheetLane : Nat → Int32) (t_sheet : Nat → Int32) : Option (Int32 × Int32 × (Nat → Int32) × (Nat → Int32) × (Nat → Int32)) :=
  (Mo_noSheet p_k).bind fun y1 =>
  if y1 = 0 then
    (Mo_in p_lane.toInt64 0 2).bind fun y4 =>
    if y4 = 0 then
      (Mo_refused (-2) t_fault).bind fun y7 =>
      some (y7.1, y7.2, t_sheetSize, t_sheetLane, t_sheet)
    else
      if p_n ≤ 60 then
        if 0 ≤ p_n then
          if ck p_k 4 = true then
            if ck p_k 4 = true then
              Mo_sheet_l65 p_k p_lane p_n 0 t_fault (upd t_sheetSize p_k.toNatClampNeg p_n) (upd t_sheetLane p_k.toNatClampNeg p_lane) t_sheet
            else none
          else none
        else
          (Mo_failed 4 t_fault).bind fun y18 =>
          some (y18.1, y18.2, t_sheetSize, t_sheetLane, t_sheet)
      else
        (Mo_refused (-2) t_fault).bind fun y20 =>
        some (y20.1, y20.2, t_sheetSize, t_sheetLane, t_sheet)
  else
    (Mo_refused (-1) t_fault).bind fun y22 =>
    some (y22.1, y22.2, t_sheetSize, t_sheetLane, t_sheet)
theorem Mo_sheet_l65_eq (p_k : Int32) (p_lane : Int32) (p_n : Int32) (x4 : Int32) (t_fault : Int32) (t_sheetSize : Nat → Int32) (t_sheetLane : Nat → Int32) (t_sheet : Nat → Int32) : Mo_sheet_l65 p_k p_lane p_n x4 t_fault t_sheetSize t_sheetLane t_sheet = (Mo_sheet_b65 p_k p_lane p_n x4 t_fault t_sheetSize t_sheetLane t_sheet).bind (sg (fin (Mo_sheet_s65 p_k p_lane p_n))) := by
  unfold Mo_sheet_l65
  exact fin_eq _ _
theorem Mo_sheet_l65_fd (p_k : Int32) (p_lane : Int32) (p_n : Int32) (x4 : Int32) (t_fault : Int32) (t_sheetSize : Nat → Int32) (t_sheetLane : Nat → Int32) (t_sheet : Nat → Int32) : fin (Mo_sheet_s65 p_k p_lane p_n) (x4, t_fault, t_sheetSize, t_sheetLane, t_sheet) = Mo_sheet_l65 p_k p_lane p_n x4 t_fault t_sheetSize t_sheetLane t_sheet := rfl
set_option maxRecDepth 100000 in
set_option maxHeartbeats 4000000 in
theorem c_Mo_sheet (l : Launch) (D : va_G) (cI cJ cS : ClassId) (q_t q_t_kindOf q_t_comes q_t_wants q_t_runs q_t_readKind q_t_readComes q_t_readWants q_t_queueNow q_t_servedAt q_t_comesWas q_t_readingOf q_t_readingAt q_t_sheetSize q_t_sheetLane q_t_sheet q_t_hands : Nat) (t_fault : Int32) (t_persons : Int32) (t_law : Int32) (t_bellSet : Int64) (t_readAt : Int32) (t_readLaw : Int32) (t_readMany : Int32) (t_queueMany : Int32) (t_servedNow : Int32) (t_doneAt : Int32) (t_readings : Int32) (t_whichMany : Int32) (t_whichOne : Int32) (t_whichTwo : Int32) (t_traceNow : Int32) (t_sheetSize : Nat → Int32) (t_sheetLane : Nat → Int32) (t_sheet : Nat → Int32) (p_k : Int32) (p_lane : Int32) (p_n : Int32) (o : Int32 × Int32 × (Nat → Int32) × (Nat → Int32) × (Nat → Int32)) (hM : Mo_sheet p_k p_lane p_n t_fault t_sheetSize t_sheetLane t_sheet = some o) : Ci l yX9_sheet wsX9_sheet rm_Mo_sheet D cI cJ cS [.ref q_t, .int p_k, .int p_lane, .int p_n] (w_Mo_sheet cI cJ cS q_t q_t_kindOf q_t_comes q_t_wants q_t_runs q_t_readKind q_t_readComes q_t_readWants q_t_queueNow q_t_servedAt q_t_comesWas q_t_readingOf q_t_readingAt q_t_sheetSize q_t_sheetLane q_t_sheet q_t_hands t_fault t_persons t_law t_bellSet t_readAt t_readLaw t_readMany t_queueMany t_servedNow t_doneAt t_readings t_whichMany t_whichOne t_whichTwo t_traceNow t_sheetSize t_sheetLane t_sheet) (w_Mo_sheet cI cJ cS q_t q_t_kindOf q_t_comes q_t_wants q_t_runs q_t_readKind q_t_readComes q_t_readWants q_t_queueNow q_t_servedAt q_t_comesWas q_t_readingOf q_t_readingAt q_t_sheetSize q_t_sheetLane q_t_sheet q_t_hands o.2.1 t_persons t_law t_bellSet t_readAt t_readLaw t_readMany t_queueMany t_servedNow t_doneAt t_readings t_whichMany t_whichOne t_whichTwo t_traceNow o.2.2.1 o.2.2.2.1 o.2.2.2.2) o.1 := by
  refine Ci.of (cc := cX9_sheet) (maxL := 5) (ret := (some .int)) (by decide) rfl (Nat.le_of_ble_eq_true rfl) ?_
  intro p e s m args below meth c A ls hE
  obtain ⟨hx, hb, hr, hml, hown, hts, hlocks, hK, hA, hP, hD, hS, hl⟩ := hE
  have hown : s.vm.findClass RX9 = some m.cls := hown
  have hl : lv_has ls 5 [(0, .ref q_t), (1, .int p_k), (2, .int p_lane), (3, .int p_n)] := hl
  have iX9 : ∀ w ∈ u_ws RX9 TX9 31, w ∈ wsX9_sheet := by decide +kernel
  have k0 := hts (.constantLong RX9 106 (2)) (by decide +kernel)
  have k1 := hts (.fieldLink RX9 46 "TurnQueueModel" "sheetSize" "[I") (by decide +kernel)
  have k2 := hts (.fieldLink RX9 49 "TurnQueueModel" "sheetLane" "[I") (by decide +kernel)
  have k3 := hts (.fieldLink RX9 52 "TurnQueueModel" "sheet" "[I") (by decide +kernel)
  have L65 : ∀ n : Nat, (∀ (x4 : Int32) (t_fault : Int32) (t_sheetSize : Nat → Int32) (t_sheetLane : Nat → Int32) (t_sheet : Nat → Int32), itr (Mo_sheet_s65 p_k p_lane p_n) n (x4, t_fault, t_sheetSize, t_sheetLane, t_sheet) = some o → ∀ (H : Heap) (locs : List Loc), va_P D vwCl (w_Mo_sheet cI cJ cS q_t q_t_kindOf q_t_comes q_t_wants q_t_runs q_t_readKind q_t_readComes q_t_readWants q_t_queueNow q_t_servedAt q_t_comesWas q_t_readingOf q_t_readingAt q_t_sheetSize q_t_sheetLane q_t_sheet q_t_hands t_fault t_persons t_law t_bellSet t_readAt t_readLaw t_readMany t_queueMany t_servedNow t_doneAt t_readings t_whichMany t_whichOne t_whichTwo t_traceNow t_sheetSize t_sheetLane t_sheet) H → va_D A (w_Mo_sheet cI cJ cS q_t q_t_kindOf q_t_comes q_t_wants q_t_runs q_t_readKind q_t_readComes q_t_readWants q_t_queueNow q_t_servedAt q_t_comesWas q_t_readingOf q_t_readingAt q_t_sheetSize q_t_sheetLane q_t_sheet q_t_hands t_fault t_persons t_law t_bellSet t_readAt t_readLaw t_readMany t_queueMany t_servedNow t_doneAt t_readings t_whichMany t_whichOne t_whichTwo t_traceNow t_sheetSize t_sheetLane t_sheet) → va_S A s.heap H locs → ∀ ls : Array Slot, lv_has ls 5 [(0, .ref q_t), (1, .int p_k), (3, .int p_n), (4, .int x4)] → W p l e (headSpec wsX9_sheet rm_Mo_sheet).room s m args below meth c H locs 0 0 (MQ below (CQi D (w_Mo_sheet cI cJ cS q_t q_t_kindOf q_t_comes q_t_wants q_t_runs q_t_readKind q_t_readComes q_t_readWants q_t_queueNow q_t_servedAt q_t_comesWas q_t_readingOf q_t_readingAt q_t_sheetSize q_t_sheetLane q_t_sheet q_t_hands o.2.1 t_persons t_law t_bellSet t_readAt t_readLaw t_readMany t_queueMany t_servedNow t_doneAt t_readings t_whichMany t_whichOne t_whichTwo t_traceNow o.2.2.1 o.2.2.2.1 o.2.2.2.2) A o.1) args s 0 0 A) (F0 m 65 ls [])) := by
    intro n
    induction n with
    | zero => exact fun _ _ _ _ _ hM => (itr_0 hM).elim
    | succ n ih =>
      intro x4 t_fault t_sheetSize t_sheetLane t_sheet hM H locs hP hD hS ls hl
      have hM : (Mo_sheet_b65 p_k p_lane p_n x4 t_fault t_sheetSize t_sheetLane t_sheet).bind (sg (itr (Mo_sheet_s65 p_k p_lane p_n) n)) = some o := hM
      unfold Mo_sheet_b65 at hM
      refine lv_iload hx hb dX9_sheet_65 (lv_at hl 3 rfl) ?_
      refine lv_iload_n hx hb dX9_sheet_67 rfl (lv_at hl 2 rfl) ?_
      refine lv_icmp_ge (tgt := 90) hx hb dX9_sheet_68 (by decide) (fun c13 => ?_) (fun c13 => ?_)
      · have hM := (s_if hM).1 c13
        refine lv_aload_n hx hb dX9_sheet_90 rfl (lv_at hl 0 rfl) ?_
        refine lv_iconst (v := 1) hx hb dX9_sheet_91 (by decide) ?_
        obtain ⟨y14, h15, hM⟩ := s_bd hM
        refine af_i (ws2 := (w_Mo_sheet cI cJ cS q_t q_t_kindOf q_t_comes q_t_wants q_t_runs q_t_readKind q_t_readComes q_t_readWants q_t_queueNow q_t_servedAt q_t_comesWas q_t_readingOf q_t_readingAt q_t_sheetSize q_t_sheetLane q_t_sheet q_t_hands y14.2 t_persons t_law t_bellSet t_readAt t_readLaw t_readMany t_queueMany t_servedNow t_doneAt t_readings t_whichMany t_whichOne t_whichTwo t_traceNow t_sheetSize t_sheetLane t_sheet)) (va_runV (As := [.int 1]) (rest := []) ⟨hx, hb, hml, hown, hts⟩ (c_Mo_refused l D cI cJ cS q_t q_t_kindOf q_t_comes q_t_wants q_t_runs q_t_readKind q_t_readComes q_t_readWants q_t_queueNow q_t_servedAt q_t_comesWas q_t_readingOf q_t_readingAt q_t_sheetSize q_t_sheetLane q_t_sheet q_t_hands t_fault t_persons t_law t_bellSet t_readAt t_readLaw t_readMany t_queueMany t_servedNow t_doneAt t_readings t_whichMany t_whichOne t_whichTwo t_traceNow 1 y14 h15 _) (cwV 1 hts gX9_sheet_X9_refused rfl rfl rfl (by decide +kernel) ⟨(Nat.le_of_ble_eq_true rfl), (Nat.le_of_ble_eq_true rfl)⟩) (pre_V hK hP hD [0] rfl rfl rfl rfl) rfl rfl hl.1 rfl (lv_room (Nat.le_of_ble_eq_true rfl)) dX9_sheet_92 ⟨Nat.zero_le _, Nat.zero_le _⟩) hP hD hS hA [0] [1, 2, 3] [3, 0, 1, 2] rfl rfl rfl (by decide) rfl rfl (fun H locs hP hD hS => ?_)
        have hM := (Option.some.inj (s_rt hM))
        subst hM
        exact rt_i hx hb hr hlocks hP hD hS dX9_sheet_95
      · have hM := (s_if hM).2 c13
        refine lv_aload_n hx hb dX9_sheet_71 rfl (lv_at hl 0 rfl) ?_
        refine va_get (ci := 8) (v := .ref q_t_sheet) (C := RX9) (T := TX9) (N := 31) hx hb hts iX9 hown hK.1 hP 0 rfl rfl 28 (Nat.le_of_ble_eq_true rfl) k3 (fun _ h9 => h9) rfl dX9_sheet_72 ?_
        refine lv_bipush (v := 60) hx hb dX9_sheet_75 (by decide) ?_
        refine lv_iload_n hx hb dX9_sheet_77 rfl (lv_at hl 1 rfl) ?_
        refine lv_imul hx hb dX9_sheet_78 ?_
        refine lv_iload hx hb dX9_sheet_79 (lv_at hl 3 rfl) ?_
        refine lv_iadd hx hb dX9_sheet_81 ?_
        refine lv_iconst (v := 0) hx hb dX9_sheet_82 (by decide) ?_
        obtain ⟨h16, hM⟩ := s_ck hM
        refine va_iast hx hb hK.1 hP hD hS 3 0 rfl rfl h16 dX9_sheet_83 (fun H locs hP hD hS => ?_)
        have hP : va_P D vwCl (w_Mo_sheet cI cJ cS q_t q_t_kindOf q_t_comes q_t_wants q_t_runs q_t_readKind q_t_readComes q_t_readWants q_t_queueNow q_t_servedAt q_t_comesWas q_t_readingOf q_t_readingAt q_t_sheetSize q_t_sheetLane q_t_sheet q_t_hands t_fault t_persons t_law t_bellSet t_readAt t_readLaw t_readMany t_queueMany t_servedNow t_doneAt t_readings t_whichMany t_whichOne t_whichTwo t_traceNow t_sheetSize t_sheetLane (upd t_sheet ((60 * p_k) + x4).toNatClampNeg 0)) H := hP
        have hD : va_D A (w_Mo_sheet cI cJ cS q_t q_t_kindOf q_t_comes q_t_wants q_t_runs q_t_readKind q_t_readComes q_t_readWants q_t_queueNow q_t_servedAt q_t_comesWas q_t_readingOf q_t_readingAt q_t_sheetSize q_t_sheetLane q_t_sheet q_t_hands t_fault t_persons t_law t_bellSet t_readAt t_readLaw t_readMany t_queueMany t_servedNow t_doneAt t_readings t_whichMany t_whichOne t_whichTwo t_traceNow t_sheetSize t_sheetLane (upd t_sheet ((60 * p_k) + x4).toNatClampNeg 0)) := hD
        obtain ⟨y17, ey17⟩ : ∃ y : Int32, y = x4 + 1 := ⟨_, rfl⟩
        have hM := s_lt hM y17 ey17
        refine lv_iinc (v := y17) (lv' := [(4, .int y17), (0, .ref q_t), (1, .int p_k), (3, .int p_n)]) hx hb dX9_sheet_84 hl (k := 3) rfl (by rw [ey17]; rfl) (Nat.le_of_ble_eq_true rfl) rfl (fun ls hl => ?_)
        refine lv_goto (tgt := 65) hx hb dX9_sheet_87 (by decide) ?_
        exact ih y17 t_fault t_sheetSize t_sheetLane (upd t_sheet ((60 * p_k) + x4).toNatClampNeg 0) (s_jp hM) _ _ hP hD hS _ (lv_sub hl [1, 2, 3, 0] rfl)
  have J65 : ∀ (x4 : Int32) (t_fault : Int32) (t_sheetSize : Nat → Int32) (t_sheetLane : Nat → Int32) (t_sheet : Nat → Int32), Mo_sheet_l65 p_k p_lane p_n x4 t_fault t_sheetSize t_sheetLane t_sheet = some o → ∀ (H : Heap) (locs : List Loc), va_P D vwCl (w_Mo_sheet cI cJ cS q_t q_t_kindOf q_t_comes q_t_wants q_t_runs q_t_readKind q_t_readComes q_t_readWants q_t_queueNow q_t_servedAt q_t_comesWas q_t_readingOf q_t_readingAt q_t_sheetSize q_t_sheetLane q_t_sheet q_t_hands t_fault t_persons t_law t_bellSet t_readAt t_readLaw t_readMany t_queueMany t_servedNow t_doneAt t_readings t_whichMany t_whichOne t_whichTwo t_traceNow t_sheetSize t_sheetLane t_sheet) H → va_D A (w_Mo_sheet cI cJ cS q_t q_t_kindOf q_t_comes q_t_wants q_t_runs q_t_readKind q_t_readComes q_t_readWants q_t_queueNow q_t_servedAt q_t_comesWas q_t_readingOf q_t_readingAt q_t_sheetSize q_t_sheetLane q_t_sheet q_t_hands t_fault t_persons t_law t_bellSet t_readAt t_readLaw t_readMany t_queueMany t_servedNow t_doneAt t_readings t_whichMany t_whichOne t_whichTwo t_traceNow t_sheetSize t_sheetLane t_sheet) → va_S A s.heap H locs → ∀ ls : Array Slot, lv_has ls 5 [(0, .ref q_t), (1, .int p_k), (3, .int p_n), (4, .int x4)] → W p l e (headSpec wsX9_sheet rm_Mo_sheet).room s m args below meth c H locs 0 0 (MQ below (CQi D (w_Mo_sheet cI cJ cS q_t q_t_kindOf q_t_comes q_t_wants q_t_runs q_t_readKind q_t_readComes q_t_readWants q_t_queueNow q_t_servedAt q_t_comesWas q_t_readingOf q_t_readingAt q_t_sheetSize q_t_sheetLane q_t_sheet q_t_hands o.2.1 t_persons t_law t_bellSet t_readAt t_readLaw t_readMany t_queueMany t_servedNow t_doneAt t_readings t_whichMany t_whichOne t_whichTwo t_traceNow o.2.2.1 o.2.2.2.1 o.2.2.2.2) A o.1) args s 0 0 A) (F0 m 65 ls []) := by
    intro x4 t_fault t_sheetSize t_sheetLane t_sheet hM
    unfold Mo_sheet_l65 at hM
    obtain ⟨n0, hM⟩ := fin_some hM
    exact (L65 n0) x4 t_fault t_sheetSize t_sheetLane t_sheet hM
  unfold Mo_sheet at hM
  refine lv_iload_n hx hb dX9_sheet_0 rfl (lv_at hl 1 rfl) ?_
  obtain ⟨y1, h2, hM⟩ := o_bd hM
  refine af_i (ws2 := (w_Mo_sheet cI cJ cS q_t q_t_kindOf q_t_comes q_t_wants q_t_runs q_t_readKind q_t_readComes q_t_readWants q_t_queueNow q_t_servedAt q_t_comesWas q_t_readingOf q_t_readingAt q_t_sheetSize q_t_sheetLane q_t_sheet q_t_hands t_fault t_persons t_law t_bellSet t_readAt t_readLaw t_readMany t_queueMany t_servedNow t_doneAt t_readings t_whichMany t_whichOne t_whichTwo t_traceNow t_sheetSize t_sheetLane t_sheet)) (va_runS (As := [.int p_k]) (rest := []) ⟨hx, hb, hml, hown, hts⟩ (c_Mo_noSheet l D cI cJ cS p_k y1 h2 _) (va_cwS 1 hts gX9_sheet_X9_noSheet rfl rfl rfl (by decide +kernel) ⟨(Nat.le_of_ble_eq_true rfl), (Nat.le_of_ble_eq_true rfl)⟩) (pre_S hK hP hD [] rfl rfl) rfl rfl hl.1 rfl (lv_room (Nat.le_of_ble_eq_true rfl)) dX9_sheet_1 ⟨Nat.zero_le _, Nat.zero_le _⟩) hP hD hS hA [] [0, 1, 2, 3] [0, 1, 2, 3] rfl rfl rfl (by decide) rfl rfl (fun H locs hP hD hS => ?_)
  refine lv_if_eq (tgt := 13) hx hb dX9_sheet_4 (by decide) (fun c3 => ?_) (fun c3 => ?_)
  · have hM := (o_if hM).1 c3
    refine lv_iload_n hx hb dX9_sheet_13 rfl (lv_at hl 2 rfl) ?_
    refine lv_i2l (v := p_lane.toInt64) hx hb dX9_sheet_14 rfl ?_
    refine lv_lconst (v := 0) hx hb dX9_sheet_15 (by decide) ?_
    refine lv_ldc2 (v := 2) hx hb hown k0 dX9_sheet_16 ?_
    obtain ⟨y4, h5, hM⟩ := o_bd hM
    refine af_i (ws2 := (w_Mo_sheet cI cJ cS q_t q_t_kindOf q_t_comes q_t_wants q_t_runs q_t_readKind q_t_readComes q_t_readWants q_t_queueNow q_t_servedAt q_t_comesWas q_t_readingOf q_t_readingAt q_t_sheetSize q_t_sheetLane q_t_sheet q_t_hands t_fault t_persons t_law t_bellSet t_readAt t_readLaw t_readMany t_queueMany t_servedNow t_doneAt t_readings t_whichMany t_whichOne t_whichTwo t_traceNow t_sheetSize t_sheetLane t_sheet)) (va_runS (As := [.long p_lane.toInt64, .long 0, .long 2]) (rest := []) ⟨hx, hb, hml, hown, hts⟩ (c_Mo_in l D cI cJ cS p_lane.toInt64 0 2 y4 h5 _) (va_cwS 3 hts gX9_sheet_X9_in rfl rfl rfl (by decide +kernel) ⟨(Nat.le_of_ble_eq_true rfl), (Nat.le_of_ble_eq_true rfl)⟩) (pre_S hK hP hD [] rfl rfl) rfl rfl hl.1 rfl (lv_room (Nat.le_of_ble_eq_true rfl)) dX9_sheet_19 ⟨Nat.zero_le _, Nat.zero_le _⟩) hP hD hS hA [] [0, 1, 2, 3] [0, 1, 2, 3] rfl rfl rfl (by decide) rfl rfl (fun H locs hP hD hS => ?_)
    refine lv_if_eq (tgt := 31) hx hb dX9_sheet_22 (by decide) (fun c6 => ?_) (fun c6 => ?_)
    · have hM := (o_if hM).1 c6
      refine lv_aload_n hx hb dX9_sheet_31 rfl (lv_at hl 0 rfl) ?_
      refine lv_bipush (v := (-2)) hx hb dX9_sheet_32 (by decide) ?_
      obtain ⟨y7, h8, hM⟩ := o_bd hM
      refine af_i (ws2 := (w_Mo_sheet cI cJ cS q_t q_t_kindOf q_t_comes q_t_wants q_t_runs q_t_readKind q_t_readComes q_t_readWants q_t_queueNow q_t_servedAt q_t_comesWas q_t_readingOf q_t_readingAt q_t_sheetSize q_t_sheetLane q_t_sheet q_t_hands y7.2 t_persons t_law t_bellSet t_readAt t_readLaw t_readMany t_queueMany t_servedNow t_doneAt t_readings t_whichMany t_whichOne t_whichTwo t_traceNow t_sheetSize t_sheetLane t_sheet)) (va_runV (As := [.int (-2)]) (rest := []) ⟨hx, hb, hml, hown, hts⟩ (c_Mo_refused l D cI cJ cS q_t q_t_kindOf q_t_comes q_t_wants q_t_runs q_t_readKind q_t_readComes q_t_readWants q_t_queueNow q_t_servedAt q_t_comesWas q_t_readingOf q_t_readingAt q_t_sheetSize q_t_sheetLane q_t_sheet q_t_hands t_fault t_persons t_law t_bellSet t_readAt t_readLaw t_readMany t_queueMany t_servedNow t_doneAt t_readings t_whichMany t_whichOne t_whichTwo t_traceNow (-2) y7 h8 _) (cwV 1 hts gX9_sheet_X9_refused rfl rfl rfl (by decide +kernel) ⟨(Nat.le_of_ble_eq_true rfl), (Nat.le_of_ble_eq_true rfl)⟩) (pre_V hK hP hD [0] rfl rfl rfl rfl) rfl rfl hl.1 rfl (lv_room (Nat.le_of_ble_eq_true rfl)) dX9_sheet_34 ⟨Nat.zero_le _, Nat.zero_le _⟩) hP hD hS hA [0] [1, 2, 3] [3, 0, 1, 2] rfl rfl rfl (by decide) rfl rfl (fun H locs hP hD hS => ?_)
      have hM := (Option.some.inj hM)
      subst hM
      exact rt_i hx hb hr hlocks hP hD hS dX9_sheet_37
    · have hM := (o_if hM).2 c6
      refine lv_iload_n hx hb dX9_sheet_25 rfl (lv_at hl 3 rfl) ?_
      refine lv_bipush (v := 60) hx hb dX9_sheet_26 (by decide) ?_
      refine lv_icmp_le (tgt := 38) hx hb dX9_sheet_28 (by decide) (fun c9 => ?_) (fun c9 => ?_)
      · have hM := (o_if hM).1 c9
        refine lv_iload_n hx hb dX9_sheet_38 rfl (lv_at hl 3 rfl) ?_
        refine lv_if_ge (tgt := 48) hx hb dX9_sheet_39 (by decide) (fun c10 => ?_) (fun c10 => ?_)
        · have hM := (o_if hM).1 c10
          refine lv_aload_n hx hb dX9_sheet_48 rfl (lv_at hl 0 rfl) ?_
          refine va_get (ci := 8) (v := .ref q_t_sheetSize) (C := RX9) (T := TX9) (N := 31) hx hb hts iX9 hown hK.1 hP 0 rfl rfl 26 (Nat.le_of_ble_eq_true rfl) k1 (fun _ h9 => h9) rfl dX9_sheet_49 ?_
          refine lv_iload_n hx hb dX9_sheet_52 rfl (lv_at hl 1 rfl) ?_
          refine lv_iload_n hx hb dX9_sheet_53 rfl (lv_at hl 3 rfl) ?_
          obtain ⟨h11, hM⟩ := o_ck hM
          refine va_iast hx hb hK.1 hP hD hS 1 0 rfl rfl h11 dX9_sheet_54 (fun H locs hP hD hS => ?_)
          have hP : va_P D vwCl (w_Mo_sheet cI cJ cS q_t q_t_kindOf q_t_comes q_t_wants q_t_runs q_t_readKind q_t_readComes q_t_readWants q_t_queueNow q_t_servedAt q_t_comesWas q_t_readingOf q_t_readingAt q_t_sheetSize q_t_sheetLane q_t_sheet q_t_hands t_fault t_persons t_law t_bellSet t_readAt t_readLaw t_readMany t_queueMany t_servedNow t_doneAt t_readings t_whichMany t_whichOne t_whichTwo t_traceNow (upd t_sheetSize p_k.toNatClampNeg p_n) t_sheetLane t_sheet) H := hP
          have hD : va_D A (w_Mo_sheet cI cJ cS q_t q_t_kindOf q_t_comes q_t_wants q_t_runs q_t_readKind q_t_readComes q_t_readWants q_t_queueNow q_t_servedAt q_t_comesWas q_t_readingOf q_t_readingAt q_t_sheetSize q_t_sheetLane q_t_sheet q_t_hands t_fault t_persons t_law t_bellSet t_readAt t_readLaw t_readMany t_queueMany t_servedNow t_doneAt t_readings t_whichMany t_whichOne t_whichTwo t_traceNow (upd t_sheetSize p_k.toNatClampNeg p_n) t_sheetLane t_sheet) := hD
          refine lv_aload_n hx hb dX9_sheet_55 rfl (lv_at hl 0 rfl) ?_
          refine va_get (ci := 8) (v := .ref q_t_sheetLane) (C := RX9) (T := TX9) (N := 31) hx hb hts iX9 hown hK.1 hP 0 rfl rfl 27 (Nat.le_of_ble_eq_true rfl) k2 (fun _ h9 => h9) rfl dX9_sheet_56 ?_
          refine lv_iload_n hx hb dX9_sheet_59 rfl (lv_at hl 1 rfl) ?_
          refine lv_iload_n hx hb dX9_sheet_60 rfl (lv_at hl 2 rfl) ?_
          obtain ⟨h12, hM⟩ := o_ck hM
          refine va_iast hx hb hK.1 hP hD hS 2 0 rfl rfl h12 dX9_sheet_61 (fun H locs hP hD hS => ?_)
          have hP : va_P D vwCl (w_Mo_sheet cI cJ cS q_t q_t_kindOf q_t_comes q_t_wants q_t_runs q_t_readKind q_t_readComes q_t_readWants q_t_queueNow q_t_servedAt q_t_comesWas q_t_readingOf q_t_readingAt q_t_sheetSize q_t_sheetLane q_t_sheet q_t_hands t_fault t_persons t_law t_bellSet t_readAt t_readLaw t_readMany t_queueMany t_servedNow t_doneAt t_readings t_whichMany t_whichOne t_whichTwo t_traceNow (upd t_sheetSize p_k.toNatClampNeg p_n) (upd t_sheetLane p_k.toNatClampNeg p_lane) t_sheet) H := hP
          have hD : va_D A (w_Mo_sheet cI cJ cS q_t q_t_kindOf q_t_comes q_t_wants q_t_runs q_t_readKind q_t_readComes q_t_readWants q_t_queueNow q_t_servedAt q_t_comesWas q_t_readingOf q_t_readingAt q_t_sheetSize q_t_sheetLane q_t_sheet q_t_hands t_fault t_persons t_law t_bellSet t_readAt t_readLaw t_readMany t_queueMany t_servedNow t_doneAt t_readings t_whichMany t_whichOne t_whichTwo t_traceNow (upd t_sheetSize p_k.toNatClampNeg p_n) (upd t_sheetLane p_k.toNatClampNeg p_lane) t_sheet) := hD
          refine lv_iconst (v := 0) hx hb dX9_sheet_62 (by decide) ?_
          refine lv_istore (lv' := [(4, .int 0), (0, .ref q_t), (1, .int p_k), (2, .int p_lane), (3, .int p_n)]) hx hb dX9_sheet_63 hl (Nat.le_of_ble_eq_true rfl) rfl (fun ls hl => ?_)
          exact J65 0 t_fault (upd t_sheetSize p_k.toNatClampNeg p_n) (upd t_sheetLane p_k.toNatClampNeg p_lane) t_sheet hM _ _ hP hD hS _ (lv_sub hl [1, 2, 4, 0] rfl)
        · have hM := (o_if hM).2 c10
          refine lv_aload_n hx hb dX9_sheet_42 rfl (lv_at hl 0 rfl) ?_
          refine lv_iconst (v := 4) hx hb dX9_sheet_43 (by decide) ?_
          obtain ⟨y18, h19, hM⟩ := o_bd hM
          refine af_i (ws2 := (w_Mo_sheet cI cJ cS q_t q_t_kindOf q_t_comes q_t_wants q_t_runs q_t_readKind q_t_readComes q_t_readWants q_t_queueNow q_t_servedAt q_t_comesWas q_t_readingOf q_t_readingAt q_t_sheetSize q_t_sheetLane q_t_sheet q_t_hands y18.2 t_persons t_law t_bellSet t_readAt t_readLaw t_readMany t_queueMany t_servedNow t_doneAt t_readings t_whichMany t_whichOne t_whichTwo t_traceNow t_sheetSize t_sheetLane t_sheet)) (va_runV (As := [.int 4]) (rest := []) ⟨hx, hb, hml, hown, hts⟩ (c_Mo_failed l D cI cJ cS q_t q_t_kindOf q_t_comes q_t_wants q_t_runs q_t_readKind q_t_readComes q_t_readWants q_t_queueNow q_t_servedAt q_t_comesWas q_t_readingOf q_t_readingAt q_t_sheetSize q_t_sheetLane q_t_sheet q_t_hands t_fault t_persons t_law t_bellSet t_readAt t_readLaw t_readMany t_queueMany t_servedNow t_doneAt t_readings t_whichMany t_whichOne t_whichTwo t_traceNow 4 y18 h19 _) (cwV 1 hts gX9_sheet_X9_failed rfl rfl rfl (by decide +kernel) ⟨(Nat.le_of_ble_eq_true rfl), (Nat.le_of_ble_eq_true rfl)⟩) (pre_V hK hP hD [0] rfl rfl rfl rfl) rfl rfl hl.1 rfl (lv_room (Nat.le_of_ble_eq_true rfl)) dX9_sheet_44 ⟨Nat.zero_le _, Nat.zero_le _⟩) hP hD hS hA [0] [1, 2, 3] [3, 0, 1, 2] rfl rfl rfl (by decide) rfl rfl (fun H locs hP hD hS => ?_)
          have hM := (Option.some.inj hM)
          subst hM
          exact rt_i hx hb hr hlocks hP hD hS dX9_sheet_47
      · have hM := (o_if hM).2 c9
        refine lv_aload_n hx hb dX9_sheet_31 rfl (lv_at hl 0 rfl) ?_
        refine lv_bipush (v := (-2)) hx hb dX9_sheet_32 (by decide) ?_
        obtain ⟨y20, h21, hM⟩ := o_bd hM
        refine af_i (ws2 := (w_Mo_sheet cI cJ cS q_t q_t_kindOf q_t_comes q_t_wants q_t_runs q_t_readKind q_t_readComes q_t_readWants q_t_queueNow q_t_servedAt q_t_comesWas q_t_readingOf q_t_readingAt q_t_sheetSize q_t_sheetLane q_t_sheet q_t_hands y20.2 t_persons t_law t_bellSet t_readAt t_readLaw t_readMany t_queueMany t_servedNow t_doneAt t_readings t_whichMany t_whichOne t_whichTwo t_traceNow t_sheetSize t_sheetLane t_sheet)) (va_runV (As := [.int (-2)]) (rest := []) ⟨hx, hb, hml, hown, hts⟩ (c_Mo_refused l D cI cJ cS q_t q_t_kindOf q_t_comes q_t_wants q_t_runs q_t_readKind q_t_readComes q_t_readWants q_t_queueNow q_t_servedAt q_t_comesWas q_t_readingOf q_t_readingAt q_t_sheetSize q_t_sheetLane q_t_sheet q_t_hands t_fault t_persons t_law t_bellSet t_readAt t_readLaw t_readMany t_queueMany t_servedNow t_doneAt t_readings t_whichMany t_whichOne t_whichTwo t_traceNow (-2) y20 h21 _) (cwV 1 hts gX9_sheet_X9_refused rfl rfl rfl (by decide +kernel) ⟨(Nat.le_of_ble_eq_true rfl), (Nat.le_of_ble_eq_true rfl)⟩) (pre_V hK hP hD [0] rfl rfl rfl rfl) rfl rfl hl.1 rfl (lv_room (Nat.le_of_ble_eq_true rfl)) dX9_sheet_34 ⟨Nat.zero_le _, Nat.zero_le _⟩) hP hD hS hA [0] [1, 2, 3] [3, 0, 1, 2] rfl rfl rfl (by decide) rfl rfl (fun H locs hP hD hS => ?_)
        have hM := (Option.some.inj hM)
        subst hM
        exact rt_i hx hb hr hlocks hP hD hS dX9_sheet_37
  · have hM := (o_if hM).2 c3
    refine lv_aload_n hx hb dX9_sheet_7 rfl (lv_at hl 0 rfl) ?_
    refine lv_iconst (v := (-1)) hx hb dX9_sheet_8 (by decide) ?_
    obtain ⟨y22, h23, hM⟩ := o_bd hM
    refine af_i (ws2 := (w_Mo_sheet cI cJ cS q_t q_t_kindOf q_t_comes q_t_wants q_t_runs q_t_readKind q_t_readComes q_t_readWants q_t_queueNow q_t_servedAt q_t_comesWas q_t_readingOf q_t_readingAt q_t_sheetSize q_t_sheetLane q_t_sheet q_t_hands y22.2 t_persons t_law t_bellSet t_readAt t_readLaw t_readMany t_queueMany t_servedNow t_doneAt t_readings t_whichMany t_whichOne t_whichTwo t_traceNow t_sheetSize t_sheetLane t_sheet)) (va_runV (As := [.int (-1)]) (rest := []) ⟨hx, hb, hml, hown, hts⟩ (c_Mo_refused l D cI cJ cS q_t q_t_kindOf q_t_comes q_t_wants q_t_runs q_t_readKind q_t_readComes q_t_readWants q_t_queueNow q_t_servedAt q_t_comesWas q_t_readingOf q_t_readingAt q_t_sheetSize q_t_sheetLane q_t_sheet q_t_hands t_fault t_persons t_law t_bellSet t_readAt t_readLaw t_readMany t_queueMany t_servedNow t_doneAt t_readings t_whichMany t_whichOne t_whichTwo t_traceNow (-1) y22 h23 _) (cwV 1 hts gX9_sheet_X9_refused rfl rfl rfl (by decide +kernel) ⟨(Nat.le_of_ble_eq_true rfl), (Nat.le_of_ble_eq_true rfl)⟩) (pre_V hK hP hD [0] rfl rfl rfl rfl) rfl rfl hl.1 rfl (lv_room (Nat.le_of_ble_eq_true rfl)) dX9_sheet_9 ⟨Nat.zero_le _, Nat.zero_le _⟩) hP hD hS hA [0] [1, 2, 3] [3, 0, 1, 2] rfl rfl rfl (by decide) rfl rfl (fun H locs hP hD hS => ?_)
    have hM := (Option.some.inj hM)
    subst hM
    exact rt_i hx hb hr hlocks hP hD hS dX9_sheet_12
/-! ===== TurnQueueModel.lose ===== -/
abbrev w_Mo_lose (cI cJ cS : ClassId) (q_t : Nat) (q_t_kindOf : Nat) (q_t_comes : Nat) (q_t_wants : Nat) (q_t_runs : Nat) (q_t_readKind : Nat) (q_t_readComes : Nat) (q_t_readWants : Nat) (q_t_queueNow : Nat) (q_t_servedAt : Nat) (q_t_comesWas : Nat) (q_t_readingOf : Nat) (q_t_readingAt : Nat) (q_t_sheetSize : Nat) (q_t_sheetLane : Nat) (q_t_sheet : Nat) (q_t_hands : Nat) (t_fault : Int32) (t_persons : Int32) (t_law : Int32) (t_bellSet : Int64) (t_readAt : Int32) (t_readLaw : Int32) (t_readMany : Int32) (t_queueMany : Int32) (t_servedNow : Int32) (t_doneAt : Int32) (t_readings : Int32) (t_whichMany : Int32) (t_whichOne : Int32) (t_whichTwo : Int32) (t_traceNow : Int32) (t_sheetSize : Nat → Int32) : va_W := [(q_t, .inr (8, [.int t_fault, .int t_persons, .int t_law, .ref q_t_kindOf, .ref q_t_comes, .ref q_t_wants, .ref q_t_runs, .long t_bellSet, .int t_readAt, .int t_readLaw, .int t_readMany, .ref q_t_readKind, .ref q_t_readComes, .ref q_t_readWants, .ref q_t_queueNow, .int t_queueMany, .int t_servedNow, .int t_doneAt, .ref q_t_servedAt, .ref q_t_comesWas, .int t_readings, .ref q_t_readingOf, .ref q_t_readingAt, .int t_whichMany, .int t_whichOne, .int t_whichTwo, .ref q_t_sheetSize, .ref q_t_sheetLane, .ref q_t_sheet, .ref q_t_hands, .int t_traceNow])), (q_t_sheetSize, ar cI 4 t_sheetSize)]
abbrev rm_Mo_lose : Room := { frames := 2, cells := 0, slots := 0, locals := 45 }
noncomputable def Mo_lose (p_k : Int32) (t_sheetSize : Nat → Int32) : Option (Int32 × (Nat → Int32)) :=
  (Mo_noSheet p_k).bind fun y1 =>
  if y1 = 0 then
    if ck p_k 4 = true then
      if 0 ≤ (t_sheetSize p_k.toNatClampNeg) then
        if ck p_k 4 = true then
          some (1, upd t_sheetSize p_k.toNatClampNeg (-1))
        else none
      else
        if ck p_k 4 = true then
          some (0, upd t_sheetSize p_k.toNatClampNeg (-1))
        else none
    else none
  else
    some ((-1), t_sheetSize)
set_option maxRecDepth 100000 in
set_option maxHeartbeats 4000000 in
theorem c_Mo_lose (l : Launch) (D : va_G) (cI cJ cS : ClassId) (q_t q_t_kindOf q_t_comes q_t_wants q_t_runs q_t_readKind q_t_readComes q_t_readWants q_t_queueNow q_t_servedAt q_t_comesWas q_t_readingOf q_t_readingAt q_t_sheetSize q_t_sheetLane q_t_sheet q_t_hands : Nat) (t_fault : Int32) (t_persons : Int32) (t_law : Int32) (t_bellSet : Int64) (t_readAt : Int32) (t_readLaw : Int32) (t_readMany : Int32) (t_queueMany : Int32) (t_servedNow : Int32) (t_doneAt : Int32) (t_readings : Int32) (t_whichMany : Int32) (t_whichOne : Int32) (t_whichTwo : Int32) (t_traceNow : Int32) (t_sheetSize : Nat → Int32) (p_k : Int32) (o : Int32 × (Nat → Int32)) (hM : Mo_lose p_k t_sheetSize = some o) : Ci l yX9_lose wsX9_lose rm_Mo_lose D cI cJ cS [.ref q_t, .int p_k] (w_Mo_lose cI cJ cS q_t q_t_kindOf q_t_comes q_t_wants q_t_runs q_t_readKind q_t_readComes q_t_readWants q_t_queueNow q_t_servedAt q_t_comesWas q_t_readingOf q_t_readingAt q_t_sheetSize q_t_sheetLane q_t_sheet q_t_hands t_fault t_persons t_law t_bellSet t_readAt t_readLaw t_readMany t_queueMany t_servedNow t_doneAt t_readings t_whichMany t_whichOne t_whichTwo t_traceNow t_sheetSize) (w_Mo_lose cI cJ cS q_t q_t_kindOf q_t_comes q_t_wants q_t_runs q_t_readKind q_t_readComes q_t_readWants q_t_queueNow q_t_servedAt q_t_comesWas q_t_readingOf q_t_readingAt q_t_sheetSize q_t_sheetLane q_t_sheet q_t_hands t_fault t_persons t_law t_bellSet t_readAt t_readLaw t_readMany t_queueMany t_servedNow t_doneAt t_readings t_whichMany t_whichOne t_whichTwo t_traceNow o.2) o.1 := by
  refine Ci.of (cc := cX9_lose) (maxL := 3) (ret := (some .int)) (by decide) rfl (Nat.le_of_ble_eq_true rfl) ?_
  intro p e s m args below meth c A ls hE
  obtain ⟨hx, hb, hr, hml, hown, hts, hlocks, hK, hA, hP, hD, hS, hl⟩ := hE
  have hown : s.vm.findClass RX9 = some m.cls := hown
  have hl : lv_has ls 3 [(0, .ref q_t), (1, .int p_k)] := hl
  have iX9 : ∀ w ∈ u_ws RX9 TX9 31, w ∈ wsX9_lose := by decide +kernel
  have k0 := hts (.fieldLink RX9 46 "TurnQueueModel" "sheetSize" "[I") (by decide +kernel)
  unfold Mo_lose at hM
  refine lv_iload_n hx hb dX9_lose_0 rfl (lv_at hl 1 rfl) ?_
  obtain ⟨y1, h2, hM⟩ := o_bd hM
  refine af_i (ws2 := (w_Mo_lose cI cJ cS q_t q_t_kindOf q_t_comes q_t_wants q_t_runs q_t_readKind q_t_readComes q_t_readWants q_t_queueNow q_t_servedAt q_t_comesWas q_t_readingOf q_t_readingAt q_t_sheetSize q_t_sheetLane q_t_sheet q_t_hands t_fault t_persons t_law t_bellSet t_readAt t_readLaw t_readMany t_queueMany t_servedNow t_doneAt t_readings t_whichMany t_whichOne t_whichTwo t_traceNow t_sheetSize)) (va_runS (As := [.int p_k]) (rest := []) ⟨hx, hb, hml, hown, hts⟩ (c_Mo_noSheet l D cI cJ cS p_k y1 h2 _) (va_cwS 1 hts gX9_lose_X9_noSheet rfl rfl rfl (by decide +kernel) ⟨(Nat.le_of_ble_eq_true rfl), (Nat.le_of_ble_eq_true rfl)⟩) (pre_S hK hP hD [] rfl rfl) rfl rfl hl.1 rfl (lv_room (Nat.le_of_ble_eq_true rfl)) dX9_lose_1 ⟨Nat.zero_le _, Nat.zero_le _⟩) hP hD hS hA [] [0, 1] [0, 1] rfl rfl rfl (by decide) rfl rfl (fun H locs hP hD hS => ?_)
  refine lv_if_eq (tgt := 9) hx hb dX9_lose_4 (by decide) (fun c3 => ?_) (fun c3 => ?_)
  · have hM := (o_if hM).1 c3
    refine lv_aload_n hx hb dX9_lose_9 rfl (lv_at hl 0 rfl) ?_
    refine va_get (ci := 8) (v := .ref q_t_sheetSize) (C := RX9) (T := TX9) (N := 31) hx hb hts iX9 hown hK.1 hP 0 rfl rfl 26 (Nat.le_of_ble_eq_true rfl) k0 (fun _ h9 => h9) rfl dX9_lose_10 ?_
    refine lv_iload_n hx hb dX9_lose_13 rfl (lv_at hl 1 rfl) ?_
    obtain ⟨h4, hM⟩ := o_ck hM
    refine va_iald hx hb hK.1 hP 1 0 rfl rfl h4 dX9_lose_14 ?_
    refine lv_if_ge (tgt := 22) hx hb dX9_lose_15 (by decide) (fun c5 => ?_) (fun c5 => ?_)
    · have hM := (o_if hM).1 c5
      refine lv_iconst (v := 1) hx hb dX9_lose_22 (by decide) ?_
      refine lv_istore_n (lv' := [(2, .int 1), (0, .ref q_t), (1, .int p_k)]) hx hb dX9_lose_23 rfl hl (Nat.le_of_ble_eq_true rfl) rfl (fun ls hl => ?_)
      refine lv_aload_n hx hb dX9_lose_24 rfl (lv_at hl 1 rfl) ?_
      refine va_get (ci := 8) (v := .ref q_t_sheetSize) (C := RX9) (T := TX9) (N := 31) hx hb hts iX9 hown hK.1 hP 0 rfl rfl 26 (Nat.le_of_ble_eq_true rfl) k0 (fun _ h9 => h9) rfl dX9_lose_25 ?_
      refine lv_iload_n hx hb dX9_lose_28 rfl (lv_at hl 2 rfl) ?_
      refine lv_iconst (v := (-1)) hx hb dX9_lose_29 (by decide) ?_
      obtain ⟨h6, hM⟩ := o_ck hM
      refine va_iast hx hb hK.1 hP hD hS 1 0 rfl rfl h6 dX9_lose_30 (fun H locs hP hD hS => ?_)
      have hP : va_P D vwCl (w_Mo_lose cI cJ cS q_t q_t_kindOf q_t_comes q_t_wants q_t_runs q_t_readKind q_t_readComes q_t_readWants q_t_queueNow q_t_servedAt q_t_comesWas q_t_readingOf q_t_readingAt q_t_sheetSize q_t_sheetLane q_t_sheet q_t_hands t_fault t_persons t_law t_bellSet t_readAt t_readLaw t_readMany t_queueMany t_servedNow t_doneAt t_readings t_whichMany t_whichOne t_whichTwo t_traceNow (upd t_sheetSize p_k.toNatClampNeg (-1))) H := hP
      have hD : va_D A (w_Mo_lose cI cJ cS q_t q_t_kindOf q_t_comes q_t_wants q_t_runs q_t_readKind q_t_readComes q_t_readWants q_t_queueNow q_t_servedAt q_t_comesWas q_t_readingOf q_t_readingAt q_t_sheetSize q_t_sheetLane q_t_sheet q_t_hands t_fault t_persons t_law t_bellSet t_readAt t_readLaw t_readMany t_queueMany t_servedNow t_doneAt t_readings t_whichMany t_whichOne t_whichTwo t_traceNow (upd t_sheetSize p_k.toNatClampNeg (-1))) := hD
      refine lv_iload_n hx hb dX9_lose_31 rfl (lv_at hl 0 rfl) ?_
      have hM := (Option.some.inj hM)
      subst hM
      exact rt_i hx hb hr hlocks hP hD hS dX9_lose_32
    · have hM := (o_if hM).2 c5
      refine lv_iconst (v := 0) hx hb dX9_lose_18 (by decide) ?_
      refine lv_goto (tgt := 23) hx hb dX9_lose_19 (by decide) ?_
      refine lv_istore_n (lv' := [(2, .int 0), (0, .ref q_t), (1, .int p_k)]) hx hb dX9_lose_23 rfl hl (Nat.le_of_ble_eq_true rfl) rfl (fun ls hl => ?_)
      refine lv_aload_n hx hb dX9_lose_24 rfl (lv_at hl 1 rfl) ?_
      refine va_get (ci := 8) (v := .ref q_t_sheetSize) (C := RX9) (T := TX9) (N := 31) hx hb hts iX9 hown hK.1 hP 0 rfl rfl 26 (Nat.le_of_ble_eq_true rfl) k0 (fun _ h9 => h9) rfl dX9_lose_25 ?_
      refine lv_iload_n hx hb dX9_lose_28 rfl (lv_at hl 2 rfl) ?_
      refine lv_iconst (v := (-1)) hx hb dX9_lose_29 (by decide) ?_
      obtain ⟨h7, hM⟩ := o_ck hM
      refine va_iast hx hb hK.1 hP hD hS 1 0 rfl rfl h7 dX9_lose_30 (fun H locs hP hD hS => ?_)
      have hP : va_P D vwCl (w_Mo_lose cI cJ cS q_t q_t_kindOf q_t_comes q_t_wants q_t_runs q_t_readKind q_t_readComes q_t_readWants q_t_queueNow q_t_servedAt q_t_comesWas q_t_readingOf q_t_readingAt q_t_sheetSize q_t_sheetLane q_t_sheet q_t_hands t_fault t_persons t_law t_bellSet t_readAt t_readLaw t_readMany t_queueMany t_servedNow t_doneAt t_readings t_whichMany t_whichOne t_whichTwo t_traceNow (upd t_sheetSize p_k.toNatClampNeg (-1))) H := hP
      have hD : va_D A (w_Mo_lose cI cJ cS q_t q_t_kindOf q_t_comes q_t_wants q_t_runs q_t_readKind q_t_readComes q_t_readWants q_t_queueNow q_t_servedAt q_t_comesWas q_t_readingOf q_t_readingAt q_t_sheetSize q_t_sheetLane q_t_sheet q_t_hands t_fault t_persons t_law t_bellSet t_readAt t_readLaw t_readMany t_queueMany t_servedNow t_doneAt t_readings t_whichMany t_whichOne t_whichTwo t_traceNow (upd t_sheetSize p_k.toNatClampNeg (-1))) := hD
      refine lv_iload_n hx hb dX9_lose_31 rfl (lv_at hl 0 rfl) ?_
      have hM := (Option.some.inj hM)
      subst hM
      exact rt_i hx hb hr hlocks hP hD hS dX9_lose_32
  · have hM := (o_if hM).2 c3
    refine lv_iconst (v := (-1)) hx hb dX9_lose_7 (by decide) ?_
    have hM := (Option.some.inj hM)
    subst hM
    exact rt_i hx hb hr hlocks hP hD hS dX9_lose_8
/-! ===== TurnQueueModel.noCell ===== -/
abbrev w_Mo_noCell (cI cJ cS : ClassId) (q_t : Nat) (q_t_kindOf : Nat) (q_t_comes : Nat) (q_t_wants : Nat) (q_t_runs : Nat) (q_t_readKind : Nat) (q_t_readComes : Nat) (q_t_readWants : Nat) (q_t_queueNow : Nat) (q_t_servedAt : Nat) (q_t_comesWas : Nat) (q_t_readingOf : Nat) (q_t_readingAt : Nat) (q_t_sheetSize : Nat) (q_t_sheetLane : Nat) (q_t_sheet : Nat) (q_t_hands : Nat) (t_fault : Int32) (t_persons : Int32) (t_law : Int32) (t_bellSet : Int64) (t_readAt : Int32) (t_readLaw : Int32) (t_readMany : Int32) (t_queueMany : Int32) (t_servedNow : Int32) (t_doneAt : Int32) (t_readings : Int32) (t_whichMany : Int32) (t_whichOne : Int32) (t_whichTwo : Int32) (t_traceNow : Int32) (t_sheetSize : Nat → Int32) : va_W := [(q_t, .inr (8, [.int t_fault, .int t_persons, .int t_law, .ref q_t_kindOf, .ref q_t_comes, .ref q_t_wants, .ref q_t_runs, .long t_bellSet, .int t_readAt, .int t_readLaw, .int t_readMany, .ref q_t_readKind, .ref q_t_readComes, .ref q_t_readWants, .ref q_t_queueNow, .int t_queueMany, .int t_servedNow, .int t_doneAt, .ref q_t_servedAt, .ref q_t_comesWas, .int t_readings, .ref q_t_readingOf, .ref q_t_readingAt, .int t_whichMany, .int t_whichOne, .int t_whichTwo, .ref q_t_sheetSize, .ref q_t_sheetLane, .ref q_t_sheet, .ref q_t_hands, .int t_traceNow])), (q_t_sheetSize, ar cI 4 t_sheetSize)]
abbrev rm_Mo_noCell : Room := { frames := 1, cells := 0, slots := 0, locals := 25 }
noncomputable def Mo_noCell (p_k : Int32) (p_i : Int32) (t_sheetSize : Nat → Int32) : Option (Int32) :=
  if ck p_k 4 = true then
    if 0 ≤ (t_sheetSize p_k.toNatClampNeg) then
      if ck p_k 4 = true then
        (Mo_in p_i.toInt64 0 (((t_sheetSize p_k.toNatClampNeg).toInt64) - 1)).bind fun y4 =>
        if y4 = 0 then
          some 3
        else
          some 0
      else none
    else
      some 1
  else none
set_option maxRecDepth 100000 in
set_option maxHeartbeats 4000000 in
theorem c_Mo_noCell (l : Launch) (D : va_G) (cI cJ cS : ClassId) (q_t q_t_kindOf q_t_comes q_t_wants q_t_runs q_t_readKind q_t_readComes q_t_readWants q_t_queueNow q_t_servedAt q_t_comesWas q_t_readingOf q_t_readingAt q_t_sheetSize q_t_sheetLane q_t_sheet q_t_hands : Nat) (t_fault : Int32) (t_persons : Int32) (t_law : Int32) (t_bellSet : Int64) (t_readAt : Int32) (t_readLaw : Int32) (t_readMany : Int32) (t_queueMany : Int32) (t_servedNow : Int32) (t_doneAt : Int32) (t_readings : Int32) (t_whichMany : Int32) (t_whichOne : Int32) (t_whichTwo : Int32) (t_traceNow : Int32) (t_sheetSize : Nat → Int32) (p_k : Int32) (p_i : Int32) (o : Int32) (hM : Mo_noCell p_k p_i t_sheetSize = some o) : Ci l yX9_noCell wsX9_noCell rm_Mo_noCell D cI cJ cS [.ref q_t, .int p_k, .int p_i] (w_Mo_noCell cI cJ cS q_t q_t_kindOf q_t_comes q_t_wants q_t_runs q_t_readKind q_t_readComes q_t_readWants q_t_queueNow q_t_servedAt q_t_comesWas q_t_readingOf q_t_readingAt q_t_sheetSize q_t_sheetLane q_t_sheet q_t_hands t_fault t_persons t_law t_bellSet t_readAt t_readLaw t_readMany t_queueMany t_servedNow t_doneAt t_readings t_whichMany t_whichOne t_whichTwo t_traceNow t_sheetSize) (w_Mo_noCell cI cJ cS q_t q_t_kindOf q_t_comes q_t_wants q_t_runs q_t_readKind q_t_readComes q_t_readWants q_t_queueNow q_t_servedAt q_t_comesWas q_t_readingOf q_t_readingAt q_t_sheetSize q_t_sheetLane q_t_sheet q_t_hands t_fault t_persons t_law t_bellSet t_readAt t_readLaw t_readMany t_queueMany t_servedNow t_doneAt t_readings t_whichMany t_whichOne t_whichTwo t_traceNow t_sheetSize) o := by
  refine Ci.of (cc := cX9_noCell) (maxL := 3) (ret := (some .int)) (by decide) rfl (Nat.le_of_ble_eq_true rfl) ?_
  intro p e s m args below meth c A ls hE
  obtain ⟨hx, hb, hr, hml, hown, hts, hlocks, hK, hA, hP, hD, hS, hl⟩ := hE
  have hown : s.vm.findClass RX9 = some m.cls := hown
  have hl : lv_has ls 3 [(0, .ref q_t), (1, .int p_k), (2, .int p_i)] := hl
  have iX9 : ∀ w ∈ u_ws RX9 TX9 31, w ∈ wsX9_noCell := by decide +kernel
  have k0 := hts (.fieldLink RX9 46 "TurnQueueModel" "sheetSize" "[I") (by decide +kernel)
  unfold Mo_noCell at hM
  refine lv_aload_n hx hb dX9_noCell_0 rfl (lv_at hl 0 rfl) ?_
  refine va_get (ci := 8) (v := .ref q_t_sheetSize) (C := RX9) (T := TX9) (N := 31) hx hb hts iX9 hown hK.1 hP 0 rfl rfl 26 (Nat.le_of_ble_eq_true rfl) k0 (fun _ h9 => h9) rfl dX9_noCell_1 ?_
  refine lv_iload_n hx hb dX9_noCell_4 rfl (lv_at hl 1 rfl) ?_
  obtain ⟨h1, hM⟩ := o_ck hM
  refine va_iald hx hb hK.1 hP 1 0 rfl rfl h1 dX9_noCell_5 ?_
  refine lv_if_ge (tgt := 13) hx hb dX9_noCell_6 (by decide) (fun c2 => ?_) (fun c2 => ?_)
  · have hM := (o_if hM).1 c2
    refine lv_iload_n hx hb dX9_noCell_13 rfl (lv_at hl 2 rfl) ?_
    refine lv_i2l (v := p_i.toInt64) hx hb dX9_noCell_14 rfl ?_
    refine lv_lconst (v := 0) hx hb dX9_noCell_15 (by decide) ?_
    refine lv_aload_n hx hb dX9_noCell_16 rfl (lv_at hl 0 rfl) ?_
    refine va_get (ci := 8) (v := .ref q_t_sheetSize) (C := RX9) (T := TX9) (N := 31) hx hb hts iX9 hown hK.1 hP 0 rfl rfl 26 (Nat.le_of_ble_eq_true rfl) k0 (fun _ h9 => h9) rfl dX9_noCell_17 ?_
    refine lv_iload_n hx hb dX9_noCell_20 rfl (lv_at hl 1 rfl) ?_
    obtain ⟨h3, hM⟩ := o_ck hM
    refine va_iald hx hb hK.1 hP 1 0 rfl rfl h3 dX9_noCell_21 ?_
    refine lv_i2l (v := (t_sheetSize p_k.toNatClampNeg).toInt64) hx hb dX9_noCell_22 rfl ?_
    refine lv_lconst (v := 1) hx hb dX9_noCell_23 (by decide) ?_
    refine lv_lsub hx hb dX9_noCell_24 ?_
    obtain ⟨y4, h5, hM⟩ := o_bd hM
    refine af_i (ws2 := (w_Mo_noCell cI cJ cS q_t q_t_kindOf q_t_comes q_t_wants q_t_runs q_t_readKind q_t_readComes q_t_readWants q_t_queueNow q_t_servedAt q_t_comesWas q_t_readingOf q_t_readingAt q_t_sheetSize q_t_sheetLane q_t_sheet q_t_hands t_fault t_persons t_law t_bellSet t_readAt t_readLaw t_readMany t_queueMany t_servedNow t_doneAt t_readings t_whichMany t_whichOne t_whichTwo t_traceNow t_sheetSize)) (va_runS (As := [.long p_i.toInt64, .long 0, .long (((t_sheetSize p_k.toNatClampNeg).toInt64) - 1)]) (rest := []) ⟨hx, hb, hml, hown, hts⟩ (c_Mo_in l D cI cJ cS p_i.toInt64 0 (((t_sheetSize p_k.toNatClampNeg).toInt64) - 1) y4 h5 _) (va_cwS 3 hts gX9_noCell_X9_in rfl rfl rfl (by decide +kernel) ⟨(Nat.le_of_ble_eq_true rfl), (Nat.le_of_ble_eq_true rfl)⟩) (pre_S hK hP hD [] rfl rfl) rfl rfl hl.1 rfl (lv_room (Nat.le_of_ble_eq_true rfl)) dX9_noCell_25 ⟨Nat.zero_le _, Nat.zero_le _⟩) hP hD hS hA [] [0, 1] [0, 1] rfl rfl rfl (by decide) rfl rfl (fun H locs hP hD hS => ?_)
    refine lv_if_eq (tgt := 35) hx hb dX9_noCell_28 (by decide) (fun c6 => ?_) (fun c6 => ?_)
    · have hM := (o_if hM).1 c6
      refine lv_iconst (v := 3) hx hb dX9_noCell_35 (by decide) ?_
      have hM := (Option.some.inj hM)
      subst hM
      exact rt_i hx hb hr hlocks hP hD hS dX9_noCell_36
    · have hM := (o_if hM).2 c6
      refine lv_iconst (v := 0) hx hb dX9_noCell_31 (by decide) ?_
      refine lv_goto (tgt := 36) hx hb dX9_noCell_32 (by decide) ?_
      have hM := (Option.some.inj hM)
      subst hM
      exact rt_i hx hb hr hlocks hP hD hS dX9_noCell_36
  · have hM := (o_if hM).2 c2
    refine lv_iconst (v := 1) hx hb dX9_noCell_9 (by decide) ?_
    refine lv_goto (tgt := 36) hx hb dX9_noCell_10 (by decide) ?_
    have hM := (Option.some.inj hM)
    subst hM
    exact rt_i hx hb hr hlocks hP hD hS dX9_noCell_36
/-! ===== TurnQueueModel.put ===== -/
abbrev w_Mo_put (cI cJ cS : ClassId) (q_t : Nat) (q_t_kindOf : Nat) (q_t_comes : Nat) (q_t_wants : Nat) (q_t_runs : Nat) (q_t_readKind : Nat) (q_t_readComes : Nat) (q_t_readWants : Nat) (q_t_queueNow : Nat) (q_t_servedAt : Nat) (q_t_comesWas : Nat) (q_t_readingOf : Nat) (q_t_readingAt : Nat) (q_t_sheetSize : Nat) (q_t_sheetLane : Nat) (q_t_sheet : Nat) (q_t_hands : Nat) (t_fault : Int32) (t_persons : Int32) (t_law : Int32) (t_bellSet : Int64) (t_readAt : Int32) (t_readLaw : Int32) (t_readMany : Int32) (t_queueMany : Int32) (t_servedNow : Int32) (t_doneAt : Int32) (t_readings : Int32) (t_whichMany : Int32) (t_whichOne : Int32) (t_whichTwo : Int32) (t_traceNow : Int32) (t_sheetSize : Nat → Int32) (t_sheetLane : Nat → Int32) (t_sheet : Nat → Int32) : va_W := [(q_t, .inr (8, [.int t_fault, .int t_persons, .int t_law, .ref q_t_kindOf, .ref q_t_comes, .ref q_t_wants, .ref q_t_runs, .long t_bellSet, .int t_readAt, .int t_readLaw, .int t_readMany, .ref q_t_readKind, .ref q_t_readComes, .ref q_t_readWants, .ref q_t_queueNow, .int t_queueMany, .int t_servedNow, .int t_doneAt, .ref q_t_servedAt, .ref q_t_comesWas, .int t_readings, .ref q_t_readingOf, .ref q_t_readingAt, .int t_whichMany, .int t_whichOne, .int t_whichTwo, .ref q_t_sheetSize, .ref q_t_sheetLane, .ref q_t_sheet, .ref q_t_hands, .int t_traceNow])), (q_t_sheetSize, ar cI 4 t_sheetSize), (q_t_sheetLane, ar cI 4 t_sheetLane), (q_t_sheet, ar cI 240 t_sheet)]
abbrev rm_Mo_put : Room := { frames := 2, cells := 0, slots := 0, locals := 47 }
noncomputable def Mo_put (p_k : Int32) (p_i : Int32) (p_v : Int32) (t_sheetSize : Nat → Int32) (t_sheetLane : Nat → Int32) (t_fault : Int32) (t_sheet : Nat → Int32) : Option (Int32 × Int32 × (Nat → Int32)) :=
  (Mo_noSheet p_k).bind fun y1 =>
  if y1 = 0 then
    (Mo_noCell p_k p_i t_sheetSize).bind fun y4 =>
    if y4 ≤ 0 then
      if ck p_k 4 = true then
        if (t_sheetLane p_k.toNatClampNeg) = 0 then
          lt p_v.toInt8.toInt32 fun y18 =>
          if ck ((60 * p_k) + p_i) 240 = true then
            (Mo_refused 1 t_fault).bind fun y20 =>
            some (y20.1, y20.2, upd t_sheet ((60 * p_k) + p_i).toNatClampNeg y18)
          else none
        else
          if ck p_k 4 = true then
            if (t_sheetLane p_k.toNatClampNeg) = 1 then
              lt p_v.toInt16.toInt32 fun y14 =>
              if ck ((60 * p_k) + p_i) 240 = true then
                (Mo_refused 1 t_fault).bind fun y16 =>
                some (y16.1, y16.2, upd t_sheet ((60 * p_k) + p_i).toNatClampNeg y14)
              else none
            else
              if ck ((60 * p_k) + p_i) 240 = true then
                (Mo_refused 1 t_fault).bind fun y12 =>
                some (y12.1, y12.2, upd t_sheet ((60 * p_k) + p_i).toNatClampNeg p_v)
              else none
          else none
      else none
    else
      (Mo_noCell p_k p_i t_sheetSize).bind fun y22 =>
      (Mo_failed y22 t_fault).bind fun y24 =>
      some (y24.1, y24.2, t_sheet)
  else
    (Mo_refused (-1) t_fault).bind fun y26 =>
    some (y26.1, y26.2, t_sheet)
set_option maxRecDepth 100000 in
set_option maxHeartbeats 4000000 in
theorem c_Mo_put (l : Launch) (D : va_G) (cI cJ cS : ClassId) (q_t q_t_kindOf q_t_comes q_t_wants q_t_runs q_t_readKind q_t_readComes q_t_readWants q_t_queueNow q_t_servedAt q_t_comesWas q_t_readingOf q_t_readingAt q_t_sheetSize q_t_sheetLane q_t_sheet q_t_hands : Nat) (t_fault : Int32) (t_persons : Int32) (t_law : Int32) (t_bellSet : Int64) (t_readAt : Int32) (t_readLaw : Int32) (t_readMany : Int32) (t_queueMany : Int32) (t_servedNow : Int32) (t_doneAt : Int32) (t_readings : Int32) (t_whichMany : Int32) (t_whichOne : Int32) (t_whichTwo : Int32) (t_traceNow : Int32) (t_sheetSize : Nat → Int32) (t_sheetLane : Nat → Int32) (t_sheet : Nat → Int32) (p_k : Int32) (p_i : Int32) (p_v : Int32) (o : Int32 × Int32 × (Nat → Int32)) (hM : Mo_put p_k p_i p_v t_sheetSize t_sheetLane t_fault t_sheet = some o) : Ci l yX9_put wsX9_put rm_Mo_put D cI cJ cS [.ref q_t, .int p_k, .int p_i, .int p_v] (w_Mo_put cI cJ cS q_t q_t_kindOf q_t_comes q_t_wants q_t_runs q_t_readKind q_t_readComes q_t_readWants q_t_queueNow q_t_servedAt q_t_comesWas q_t_readingOf q_t_readingAt q_t_sheetSize q_t_sheetLane q_t_sheet q_t_hands t_fault t_persons t_law t_bellSet t_readAt t_readLaw t_readMany t_queueMany t_servedNow t_doneAt t_readings t_whichMany t_whichOne t_whichTwo t_traceNow t_sheetSize t_sheetLane t_sheet) (w_Mo_put cI cJ cS q_t q_t_kindOf q_t_comes q_t_wants q_t_runs q_t_readKind q_t_readComes q_t_readWants q_t_queueNow q_t_servedAt q_t_comesWas q_t_readingOf q_t_readingAt q_t_sheetSize q_t_sheetLane q_t_sheet q_t_hands o.2.1 t_persons t_law t_bellSet t_readAt t_readLaw t_readMany t_queueMany t_servedNow t_doneAt t_readings t_whichMany t_whichOne t_whichTwo t_traceNow t_sheetSize t_sheetLane o.2.2) o.1 := by
  refine Ci.of (cc := cX9_put) (maxL := 4) (ret := (some .int)) (by decide) rfl (Nat.le_of_ble_eq_true rfl) ?_
  intro p e s m args below meth c A ls hE
  obtain ⟨hx, hb, hr, hml, hown, hts, hlocks, hK, hA, hP, hD, hS, hl⟩ := hE
  have hown : s.vm.findClass RX9 = some m.cls := hown
  have hl : lv_has ls 4 [(0, .ref q_t), (1, .int p_k), (2, .int p_i), (3, .int p_v)] := hl
  have iX9 : ∀ w ∈ u_ws RX9 TX9 31, w ∈ wsX9_put := by decide +kernel
  have k0 := hts (.fieldLink RX9 52 "TurnQueueModel" "sheet" "[I") (by decide +kernel)
  have k1 := hts (.fieldLink RX9 49 "TurnQueueModel" "sheetLane" "[I") (by decide +kernel)
  unfold Mo_put at hM
  refine lv_iload_n hx hb dX9_put_0 rfl (lv_at hl 1 rfl) ?_
  obtain ⟨y1, h2, hM⟩ := o_bd hM
  refine af_i (ws2 := (w_Mo_put cI cJ cS q_t q_t_kindOf q_t_comes q_t_wants q_t_runs q_t_readKind q_t_readComes q_t_readWants q_t_queueNow q_t_servedAt q_t_comesWas q_t_readingOf q_t_readingAt q_t_sheetSize q_t_sheetLane q_t_sheet q_t_hands t_fault t_persons t_law t_bellSet t_readAt t_readLaw t_readMany t_queueMany t_servedNow t_doneAt t_readings t_whichMany t_whichOne t_whichTwo t_traceNow t_sheetSize t_sheetLane t_sheet)) (va_runS (As := [.int p_k]) (rest := []) ⟨hx, hb, hml, hown, hts⟩ (c_Mo_noSheet l D cI cJ cS p_k y1 h2 _) (va_cwS 1 hts gX9_put_X9_noSheet rfl rfl rfl (by decide +kernel) ⟨(Nat.le_of_ble_eq_true rfl), (Nat.le_of_ble_eq_true rfl)⟩) (pre_S hK hP hD [] rfl rfl) rfl rfl hl.1 rfl (lv_room (Nat.le_of_ble_eq_true rfl)) dX9_put_1 ⟨Nat.zero_le _, Nat.zero_le _⟩) hP hD hS hA [] [0, 1, 2, 3] [0, 1, 2, 3] rfl rfl rfl (by decide) rfl rfl (fun H locs hP hD hS => ?_)
  refine lv_if_eq (tgt := 13) hx hb dX9_put_4 (by decide) (fun c3 => ?_) (fun c3 => ?_)
  · have hM := (o_if hM).1 c3
    refine lv_aload_n hx hb dX9_put_13 rfl (lv_at hl 0 rfl) ?_
    refine lv_iload_n hx hb dX9_put_14 rfl (lv_at hl 1 rfl) ?_
    refine lv_iload_n hx hb dX9_put_15 rfl (lv_at hl 2 rfl) ?_
    obtain ⟨y4, h5, hM⟩ := o_bd hM
    refine af_i (ws2 := (w_Mo_put cI cJ cS q_t q_t_kindOf q_t_comes q_t_wants q_t_runs q_t_readKind q_t_readComes q_t_readWants q_t_queueNow q_t_servedAt q_t_comesWas q_t_readingOf q_t_readingAt q_t_sheetSize q_t_sheetLane q_t_sheet q_t_hands t_fault t_persons t_law t_bellSet t_readAt t_readLaw t_readMany t_queueMany t_servedNow t_doneAt t_readings t_whichMany t_whichOne t_whichTwo t_traceNow t_sheetSize t_sheetLane t_sheet)) (va_runV (As := [.int p_k, .int p_i]) (rest := []) ⟨hx, hb, hml, hown, hts⟩ (c_Mo_noCell l D cI cJ cS q_t q_t_kindOf q_t_comes q_t_wants q_t_runs q_t_readKind q_t_readComes q_t_readWants q_t_queueNow q_t_servedAt q_t_comesWas q_t_readingOf q_t_readingAt q_t_sheetSize q_t_sheetLane q_t_sheet q_t_hands t_fault t_persons t_law t_bellSet t_readAt t_readLaw t_readMany t_queueMany t_servedNow t_doneAt t_readings t_whichMany t_whichOne t_whichTwo t_traceNow t_sheetSize p_k p_i y4 h5 _) (cwV 2 hts gX9_put_X9_noCell rfl rfl rfl (by decide +kernel) ⟨(Nat.le_of_ble_eq_true rfl), (Nat.le_of_ble_eq_true rfl)⟩) (pre_V hK hP hD [0, 1] rfl rfl rfl rfl) rfl rfl hl.1 rfl (lv_room (Nat.le_of_ble_eq_true rfl)) dX9_put_16 ⟨Nat.zero_le _, Nat.zero_le _⟩) hP hD hS hA [0, 1] [2, 3] [2, 3, 0, 1] rfl rfl rfl (by decide) rfl rfl (fun H locs hP hD hS => ?_)
    refine lv_if_le (tgt := 33) hx hb dX9_put_19 (by decide) (fun c6 => ?_) (fun c6 => ?_)
    · have hM := (o_if hM).1 c6
      refine lv_aload_n hx hb dX9_put_33 rfl (lv_at hl 0 rfl) ?_
      refine va_get (ci := 8) (v := .ref q_t_sheet) (C := RX9) (T := TX9) (N := 31) hx hb hts iX9 hown hK.1 hP 0 rfl rfl 28 (Nat.le_of_ble_eq_true rfl) k0 (fun _ h9 => h9) rfl dX9_put_34 ?_
      refine lv_bipush (v := 60) hx hb dX9_put_37 (by decide) ?_
      refine lv_iload_n hx hb dX9_put_39 rfl (lv_at hl 1 rfl) ?_
      refine lv_imul hx hb dX9_put_40 ?_
      refine lv_iload_n hx hb dX9_put_41 rfl (lv_at hl 2 rfl) ?_
      refine lv_iadd hx hb dX9_put_42 ?_
      refine lv_aload_n hx hb dX9_put_43 rfl (lv_at hl 0 rfl) ?_
      refine va_get (ci := 8) (v := .ref q_t_sheetLane) (C := RX9) (T := TX9) (N := 31) hx hb hts iX9 hown hK.1 hP 0 rfl rfl 27 (Nat.le_of_ble_eq_true rfl) k1 (fun _ h9 => h9) rfl dX9_put_44 ?_
      refine lv_iload_n hx hb dX9_put_47 rfl (lv_at hl 1 rfl) ?_
      obtain ⟨h7, hM⟩ := o_ck hM
      refine va_iald hx hb hK.1 hP 2 0 rfl rfl h7 dX9_put_48 ?_
      refine lv_if_ne (tgt := 57) hx hb dX9_put_49 (by decide) (fun c8 => ?_) (fun c8 => ?_)
      · have hM := (o_if hM).2 c8
        refine lv_aload_n hx hb dX9_put_57 rfl (lv_at hl 0 rfl) ?_
        refine va_get (ci := 8) (v := .ref q_t_sheetLane) (C := RX9) (T := TX9) (N := 31) hx hb hts iX9 hown hK.1 hP 0 rfl rfl 27 (Nat.le_of_ble_eq_true rfl) k1 (fun _ h9 => h9) rfl dX9_put_58 ?_
        refine lv_iload_n hx hb dX9_put_61 rfl (lv_at hl 1 rfl) ?_
        obtain ⟨h9, hM⟩ := o_ck hM
        refine va_iald hx hb hK.1 hP 2 0 rfl rfl h9 dX9_put_62 ?_
        refine lv_iconst (v := 1) hx hb dX9_put_63 (by decide) ?_
        refine lv_icmp_ne (tgt := 72) hx hb dX9_put_64 (by decide) (fun c10 => ?_) (fun c10 => ?_)
        · have hM := (o_if hM).2 c10
          refine lv_iload_n hx hb dX9_put_72 rfl (lv_at hl 3 rfl) ?_
          obtain ⟨h11, hM⟩ := o_ck hM
          refine va_iast hx hb hK.1 hP hD hS 3 0 rfl rfl h11 dX9_put_73 (fun H locs hP hD hS => ?_)
          have hP : va_P D vwCl (w_Mo_put cI cJ cS q_t q_t_kindOf q_t_comes q_t_wants q_t_runs q_t_readKind q_t_readComes q_t_readWants q_t_queueNow q_t_servedAt q_t_comesWas q_t_readingOf q_t_readingAt q_t_sheetSize q_t_sheetLane q_t_sheet q_t_hands t_fault t_persons t_law t_bellSet t_readAt t_readLaw t_readMany t_queueMany t_servedNow t_doneAt t_readings t_whichMany t_whichOne t_whichTwo t_traceNow t_sheetSize t_sheetLane (upd t_sheet ((60 * p_k) + p_i).toNatClampNeg p_v)) H := hP
          have hD : va_D A (w_Mo_put cI cJ cS q_t q_t_kindOf q_t_comes q_t_wants q_t_runs q_t_readKind q_t_readComes q_t_readWants q_t_queueNow q_t_servedAt q_t_comesWas q_t_readingOf q_t_readingAt q_t_sheetSize q_t_sheetLane q_t_sheet q_t_hands t_fault t_persons t_law t_bellSet t_readAt t_readLaw t_readMany t_queueMany t_servedNow t_doneAt t_readings t_whichMany t_whichOne t_whichTwo t_traceNow t_sheetSize t_sheetLane (upd t_sheet ((60 * p_k) + p_i).toNatClampNeg p_v)) := hD
          refine lv_aload_n hx hb dX9_put_74 rfl (lv_at hl 0 rfl) ?_
          refine lv_iconst (v := 1) hx hb dX9_put_75 (by decide) ?_
          obtain ⟨y12, h13, hM⟩ := o_bd hM
          refine af_i (ws2 := (w_Mo_put cI cJ cS q_t q_t_kindOf q_t_comes q_t_wants q_t_runs q_t_readKind q_t_readComes q_t_readWants q_t_queueNow q_t_servedAt q_t_comesWas q_t_readingOf q_t_readingAt q_t_sheetSize q_t_sheetLane q_t_sheet q_t_hands y12.2 t_persons t_law t_bellSet t_readAt t_readLaw t_readMany t_queueMany t_servedNow t_doneAt t_readings t_whichMany t_whichOne t_whichTwo t_traceNow t_sheetSize t_sheetLane (upd t_sheet ((60 * p_k) + p_i).toNatClampNeg p_v))) (va_runV (As := [.int 1]) (rest := []) ⟨hx, hb, hml, hown, hts⟩ (c_Mo_refused l D cI cJ cS q_t q_t_kindOf q_t_comes q_t_wants q_t_runs q_t_readKind q_t_readComes q_t_readWants q_t_queueNow q_t_servedAt q_t_comesWas q_t_readingOf q_t_readingAt q_t_sheetSize q_t_sheetLane q_t_sheet q_t_hands t_fault t_persons t_law t_bellSet t_readAt t_readLaw t_readMany t_queueMany t_servedNow t_doneAt t_readings t_whichMany t_whichOne t_whichTwo t_traceNow 1 y12 h13 _) (cwV 1 hts gX9_put_X9_refused rfl rfl rfl (by decide +kernel) ⟨(Nat.le_of_ble_eq_true rfl), (Nat.le_of_ble_eq_true rfl)⟩) (pre_V hK hP hD [0] rfl rfl rfl rfl) rfl rfl hl.1 rfl (lv_room (Nat.le_of_ble_eq_true rfl)) dX9_put_76 ⟨Nat.zero_le _, Nat.zero_le _⟩) hP hD hS hA [0] [1, 2, 3] [3, 0, 1, 2] rfl rfl rfl (by decide) rfl rfl (fun H locs hP hD hS => ?_)
          have hM := (Option.some.inj hM)
          subst hM
          exact rt_i hx hb hr hlocks hP hD hS dX9_put_79
        · have hM := (o_if hM).1 c10
          refine lv_iload_n hx hb dX9_put_67 rfl (lv_at hl 3 rfl) ?_
          refine lv_i2s (v := p_v.toInt16.toInt32) hx hb dX9_put_68 rfl ?_
          refine lv_goto (tgt := 73) hx hb dX9_put_69 (by decide) ?_
          refine lv_topi (fun y14 ey14 => ?_)
          have hM := o_lt hM y14 ey14
          obtain ⟨h15, hM⟩ := o_ck hM
          refine va_iast hx hb hK.1 hP hD hS 3 0 rfl rfl h15 dX9_put_73 (fun H locs hP hD hS => ?_)
          have hP : va_P D vwCl (w_Mo_put cI cJ cS q_t q_t_kindOf q_t_comes q_t_wants q_t_runs q_t_readKind q_t_readComes q_t_readWants q_t_queueNow q_t_servedAt q_t_comesWas q_t_readingOf q_t_readingAt q_t_sheetSize q_t_sheetLane q_t_sheet q_t_hands t_fault t_persons t_law t_bellSet t_readAt t_readLaw t_readMany t_queueMany t_servedNow t_doneAt t_readings t_whichMany t_whichOne t_whichTwo t_traceNow t_sheetSize t_sheetLane (upd t_sheet ((60 * p_k) + p_i).toNatClampNeg y14)) H := hP
          have hD : va_D A (w_Mo_put cI cJ cS q_t q_t_kindOf q_t_comes q_t_wants q_t_runs q_t_readKind q_t_readComes q_t_readWants q_t_queueNow q_t_servedAt q_t_comesWas q_t_readingOf q_t_readingAt q_t_sheetSize q_t_sheetLane q_t_sheet q_t_hands t_fault t_persons t_law t_bellSet t_readAt t_readLaw t_readMany t_queueMany t_servedNow t_doneAt t_readings t_whichMany t_whichOne t_whichTwo t_traceNow t_sheetSize t_sheetLane (upd t_sheet ((60 * p_k) + p_i).toNatClampNeg y14)) := hD
          refine lv_aload_n hx hb dX9_put_74 rfl (lv_at hl 0 rfl) ?_
          refine lv_iconst (v := 1) hx hb dX9_put_75 (by decide) ?_
          obtain ⟨y16, h17, hM⟩ := o_bd hM
          refine af_i (ws2 := (w_Mo_put cI cJ cS q_t q_t_kindOf q_t_comes q_t_wants q_t_runs q_t_readKind q_t_readComes q_t_readWants q_t_queueNow q_t_servedAt q_t_comesWas q_t_readingOf q_t_readingAt q_t_sheetSize q_t_sheetLane q_t_sheet q_t_hands y16.2 t_persons t_law t_bellSet t_readAt t_readLaw t_readMany t_queueMany t_servedNow t_doneAt t_readings t_whichMany t_whichOne t_whichTwo t_traceNow t_sheetSize t_sheetLane (upd t_sheet ((60 * p_k) + p_i).toNatClampNeg y14))) (va_runV (As := [.int 1]) (rest := []) ⟨hx, hb, hml, hown, hts⟩ (c_Mo_refused l D cI cJ cS q_t q_t_kindOf q_t_comes q_t_wants q_t_runs q_t_readKind q_t_readComes q_t_readWants q_t_queueNow q_t_servedAt q_t_comesWas q_t_readingOf q_t_readingAt q_t_sheetSize q_t_sheetLane q_t_sheet q_t_hands t_fault t_persons t_law t_bellSet t_readAt t_readLaw t_readMany t_queueMany t_servedNow t_doneAt t_readings t_whichMany t_whichOne t_whichTwo t_traceNow 1 y16 h17 _) (cwV 1 hts gX9_put_X9_refused rfl rfl rfl (by decide +kernel) ⟨(Nat.le_of_ble_eq_true rfl), (Nat.le_of_ble_eq_true rfl)⟩) (pre_V hK hP hD [0] rfl rfl rfl rfl) rfl rfl hl.1 rfl (lv_room (Nat.le_of_ble_eq_true rfl)) dX9_put_76 ⟨Nat.zero_le _, Nat.zero_le _⟩) hP hD hS hA [0] [1, 2, 3] [3, 0, 1, 2] rfl rfl rfl (by decide) rfl rfl (fun H locs hP hD hS => ?_)
          have hM := (Option.some.inj hM)
          subst hM
          exact rt_i hx hb hr hlocks hP hD hS dX9_put_79
      · have hM := (o_if hM).1 c8
        refine lv_iload_n hx hb dX9_put_52 rfl (lv_at hl 3 rfl) ?_
        refine lv_i2b (v := p_v.toInt8.toInt32) hx hb dX9_put_53 rfl ?_
        refine lv_goto (tgt := 73) hx hb dX9_put_54 (by decide) ?_
        refine lv_topi (fun y18 ey18 => ?_)
        have hM := o_lt hM y18 ey18
        obtain ⟨h19, hM⟩ := o_ck hM
        refine va_iast hx hb hK.1 hP hD hS 3 0 rfl rfl h19 dX9_put_73 (fun H locs hP hD hS => ?_)
        have hP : va_P D vwCl (w_Mo_put cI cJ cS q_t q_t_kindOf q_t_comes q_t_wants q_t_runs q_t_readKind q_t_readComes q_t_readWants q_t_queueNow q_t_servedAt q_t_comesWas q_t_readingOf q_t_readingAt q_t_sheetSize q_t_sheetLane q_t_sheet q_t_hands t_fault t_persons t_law t_bellSet t_readAt t_readLaw t_readMany t_queueMany t_servedNow t_doneAt t_readings t_whichMany t_whichOne t_whichTwo t_traceNow t_sheetSize t_sheetLane (upd t_sheet ((60 * p_k) + p_i).toNatClampNeg y18)) H := hP
        have hD : va_D A (w_Mo_put cI cJ cS q_t q_t_kindOf q_t_comes q_t_wants q_t_runs q_t_readKind q_t_readComes q_t_readWants q_t_queueNow q_t_servedAt q_t_comesWas q_t_readingOf q_t_readingAt q_t_sheetSize q_t_sheetLane q_t_sheet q_t_hands t_fault t_persons t_law t_bellSet t_readAt t_readLaw t_readMany t_queueMany t_servedNow t_doneAt t_readings t_whichMany t_whichOne t_whichTwo t_traceNow t_sheetSize t_sheetLane (upd t_sheet ((60 * p_k) + p_i).toNatClampNeg y18)) := hD
        refine lv_aload_n hx hb dX9_put_74 rfl (lv_at hl 0 rfl) ?_
        refine lv_iconst (v := 1) hx hb dX9_put_75 (by decide) ?_
        obtain ⟨y20, h21, hM⟩ := o_bd hM
        refine af_i (ws2 := (w_Mo_put cI cJ cS q_t q_t_kindOf q_t_comes q_t_wants q_t_runs q_t_readKind q_t_readComes q_t_readWants q_t_queueNow q_t_servedAt q_t_comesWas q_t_readingOf q_t_readingAt q_t_sheetSize q_t_sheetLane q_t_sheet q_t_hands y20.2 t_persons t_law t_bellSet t_readAt t_readLaw t_readMany t_queueMany t_servedNow t_doneAt t_readings t_whichMany t_whichOne t_whichTwo t_traceNow t_sheetSize t_sheetLane (upd t_sheet ((60 * p_k) + p_i).toNatClampNeg y18))) (va_runV (As := [.int 1]) (rest := []) ⟨hx, hb, hml, hown, hts⟩ (c_Mo_refused l D cI cJ cS q_t q_t_kindOf q_t_comes q_t_wants q_t_runs q_t_readKind q_t_readComes q_t_readWants q_t_queueNow q_t_servedAt q_t_comesWas q_t_readingOf q_t_readingAt q_t_sheetSize q_t_sheetLane q_t_sheet q_t_hands t_fault t_persons t_law t_bellSet t_readAt t_readLaw t_readMany t_queueMany t_servedNow t_doneAt t_readings t_whichMany t_whichOne t_whichTwo t_traceNow 1 y20 h21 _) (cwV 1 hts gX9_put_X9_refused rfl rfl rfl (by decide +kernel) ⟨(Nat.le_of_ble_eq_true rfl), (Nat.le_of_ble_eq_true rfl)⟩) (pre_V hK hP hD [0] rfl rfl rfl rfl) rfl rfl hl.1 rfl (lv_room (Nat.le_of_ble_eq_true rfl)) dX9_put_76 ⟨Nat.zero_le _, Nat.zero_le _⟩) hP hD hS hA [0] [1, 2, 3] [3, 0, 1, 2] rfl rfl rfl (by decide) rfl rfl (fun H locs hP hD hS => ?_)
        have hM := (Option.some.inj hM)
        subst hM
        exact rt_i hx hb hr hlocks hP hD hS dX9_put_79
    · have hM := (o_if hM).2 c6
      refine lv_aload_n hx hb dX9_put_22 rfl (lv_at hl 0 rfl) ?_
      refine lv_aload_n hx hb dX9_put_23 rfl (lv_at hl 0 rfl) ?_
      refine lv_iload_n hx hb dX9_put_24 rfl (lv_at hl 1 rfl) ?_
      refine lv_iload_n hx hb dX9_put_25 rfl (lv_at hl 2 rfl) ?_
      obtain ⟨y22, h23, hM⟩ := o_bd hM
      refine af_i (ws2 := (w_Mo_put cI cJ cS q_t q_t_kindOf q_t_comes q_t_wants q_t_runs q_t_readKind q_t_readComes q_t_readWants q_t_queueNow q_t_servedAt q_t_comesWas q_t_readingOf q_t_readingAt q_t_sheetSize q_t_sheetLane q_t_sheet q_t_hands t_fault t_persons t_law t_bellSet t_readAt t_readLaw t_readMany t_queueMany t_servedNow t_doneAt t_readings t_whichMany t_whichOne t_whichTwo t_traceNow t_sheetSize t_sheetLane t_sheet)) (va_runV (As := [.int p_k, .int p_i]) (rest := [.ref q_t]) ⟨hx, hb, hml, hown, hts⟩ (c_Mo_noCell l D cI cJ cS q_t q_t_kindOf q_t_comes q_t_wants q_t_runs q_t_readKind q_t_readComes q_t_readWants q_t_queueNow q_t_servedAt q_t_comesWas q_t_readingOf q_t_readingAt q_t_sheetSize q_t_sheetLane q_t_sheet q_t_hands t_fault t_persons t_law t_bellSet t_readAt t_readLaw t_readMany t_queueMany t_servedNow t_doneAt t_readings t_whichMany t_whichOne t_whichTwo t_traceNow t_sheetSize p_k p_i y22 h23 _) (cwV 2 hts gX9_put_X9_noCell rfl rfl rfl (by decide +kernel) ⟨(Nat.le_of_ble_eq_true rfl), (Nat.le_of_ble_eq_true rfl)⟩) (pre_V hK hP hD [0, 1] rfl rfl rfl rfl) rfl rfl hl.1 rfl (lv_room (Nat.le_of_ble_eq_true rfl)) dX9_put_26 ⟨Nat.zero_le _, Nat.zero_le _⟩) hP hD hS hA [0, 1] [2, 3] [2, 3, 0, 1] rfl rfl rfl (by decide) rfl rfl (fun H locs hP hD hS => ?_)
      obtain ⟨y24, h25, hM⟩ := o_bd hM
      refine af_i (ws2 := (w_Mo_put cI cJ cS q_t q_t_kindOf q_t_comes q_t_wants q_t_runs q_t_readKind q_t_readComes q_t_readWants q_t_queueNow q_t_servedAt q_t_comesWas q_t_readingOf q_t_readingAt q_t_sheetSize q_t_sheetLane q_t_sheet q_t_hands y24.2 t_persons t_law t_bellSet t_readAt t_readLaw t_readMany t_queueMany t_servedNow t_doneAt t_readings t_whichMany t_whichOne t_whichTwo t_traceNow t_sheetSize t_sheetLane t_sheet)) (va_runV (As := [.int y22]) (rest := []) ⟨hx, hb, hml, hown, hts⟩ (c_Mo_failed l D cI cJ cS q_t q_t_kindOf q_t_comes q_t_wants q_t_runs q_t_readKind q_t_readComes q_t_readWants q_t_queueNow q_t_servedAt q_t_comesWas q_t_readingOf q_t_readingAt q_t_sheetSize q_t_sheetLane q_t_sheet q_t_hands t_fault t_persons t_law t_bellSet t_readAt t_readLaw t_readMany t_queueMany t_servedNow t_doneAt t_readings t_whichMany t_whichOne t_whichTwo t_traceNow y22 y24 h25 _) (cwV 1 hts gX9_put_X9_failed rfl rfl rfl (by decide +kernel) ⟨(Nat.le_of_ble_eq_true rfl), (Nat.le_of_ble_eq_true rfl)⟩) (pre_V hK hP hD [0] rfl rfl rfl rfl) rfl rfl hl.1 rfl (lv_room (Nat.le_of_ble_eq_true rfl)) dX9_put_29 ⟨Nat.zero_le _, Nat.zero_le _⟩) hP hD hS hA [0] [1, 2, 3] [3, 0, 1, 2] rfl rfl rfl (by decide) rfl rfl (fun H locs hP hD hS => ?_)
      have hM := (Option.some.inj hM)
      subst hM
      exact rt_i hx hb hr hlocks hP hD hS dX9_put_32
  · have hM := (o_if hM).2 c3
    refine lv_aload_n hx hb dX9_put_7 rfl (lv_at hl 0 rfl) ?_
    refine lv_iconst (v := (-1)) hx hb dX9_put_8 (by decide) ?_
    obtain ⟨y26, h27, hM⟩ := o_bd hM
    refine af_i (ws2 := (w_Mo_put cI cJ cS q_t q_t_kindOf q_t_comes q_t_wants q_t_runs q_t_readKind q_t_readComes q_t_readWants q_t_queueNow q_t_servedAt q_t_comesWas q_t_readingOf q_t_readingAt q_t_sheetSize q_t_sheetLane q_t_sheet q_t_hands y26.2 t_persons t_law t_bellSet t_readAt t_readLaw t_readMany t_queueMany t_servedNow t_doneAt t_readings t_whichMany t_whichOne t_whichTwo t_traceNow t_sheetSize t_sheetLane t_sheet)) (va_runV (As := [.int (-1)]) (rest := []) ⟨hx, hb, hml, hown, hts⟩ (c_Mo_refused l D cI cJ cS q_t q_t_kindOf q_t_comes q_t_wants q_t_runs q_t_readKind q_t_readComes q_t_readWants q_t_queueNow q_t_servedAt q_t_comesWas q_t_readingOf q_t_readingAt q_t_sheetSize q_t_sheetLane q_t_sheet q_t_hands t_fault t_persons t_law t_bellSet t_readAt t_readLaw t_readMany t_queueMany t_servedNow t_doneAt t_readings t_whichMany t_whichOne t_whichTwo t_traceNow (-1) y26 h27 _) (cwV 1 hts gX9_put_X9_refused rfl rfl rfl (by decide +kernel) ⟨(Nat.le_of_ble_eq_true rfl), (Nat.le_of_ble_eq_true rfl)⟩) (pre_V hK hP hD [0] rfl rfl rfl rfl) rfl rfl hl.1 rfl (lv_room (Nat.le_of_ble_eq_true rfl)) dX9_put_9 ⟨Nat.zero_le _, Nat.zero_le _⟩) hP hD hS hA [0] [1, 2, 3] [3, 0, 1, 2] rfl rfl rfl (by decide) rfl rfl (fun H locs hP hD hS => ?_)
    have hM := (Option.some.inj hM)
    subst hM
    exact rt_i hx hb hr hlocks hP hD hS dX9_put_12
/-! ===== TurnQueueModel.cell ===== -/
abbrev w_Mo_cell (cI cJ cS : ClassId) (q_t : Nat) (q_t_kindOf : Nat) (q_t_comes : Nat) (q_t_wants : Nat) (q_t_runs : Nat) (q_t_readKind : Nat) (q_t_readComes : Nat) (q_t_readWants : Nat) (q_t_queueNow : Nat) (q_t_servedAt : Nat) (q_t_comesWas : Nat) (q_t_readingOf : Nat) (q_t_readingAt : Nat) (q_t_sheetSize : Nat) (q_t_sheetLane : Nat) (q_t_sheet : Nat) (q_t_hands : Nat) (t_fault : Int32) (t_persons : Int32) (t_law : Int32) (t_bellSet : Int64) (t_readAt : Int32) (t_readLaw : Int32) (t_readMany : Int32) (t_queueMany : Int32) (t_servedNow : Int32) (t_doneAt : Int32) (t_readings : Int32) (t_whichMany : Int32) (t_whichOne : Int32) (t_whichTwo : Int32) (t_traceNow : Int32) (t_sheetSize : Nat → Int32) (t_sheetLane : Nat → Int32) (t_sheet : Nat → Int32) : va_W := [(q_t, .inr (8, [.int t_fault, .int t_persons, .int t_law, .ref q_t_kindOf, .ref q_t_comes, .ref q_t_wants, .ref q_t_runs, .long t_bellSet, .int t_readAt, .int t_readLaw, .int t_readMany, .ref q_t_readKind, .ref q_t_readComes, .ref q_t_readWants, .ref q_t_queueNow, .int t_queueMany, .int t_servedNow, .int t_doneAt, .ref q_t_servedAt, .ref q_t_comesWas, .int t_readings, .ref q_t_readingOf, .ref q_t_readingAt, .int t_whichMany, .int t_whichOne, .int t_whichTwo, .ref q_t_sheetSize, .ref q_t_sheetLane, .ref q_t_sheet, .ref q_t_hands, .int t_traceNow])), (q_t_sheetSize, ar cI 4 t_sheetSize), (q_t_sheetLane, ar cI 4 t_sheetLane), (q_t_sheet, ar cI 240 t_sheet)]
abbrev rm_Mo_cell : Room := { frames := 2, cells := 0, slots := 0, locals := 47 }
noncomputable def Mo_cell_j53 (p_k : Int32) (p_i : Int32) (p_lane : Int32) (t_sheetSize : Nat → Int32) (t_sheetLane : Nat → Int32) (t_sheet : Nat → Int32) (t_fault : Int32) : Option (Int64 × Int32) :=
  (Mo_noCell p_k p_i t_sheetSize).bind fun y11 =>
  if y11 ≤ 0 then
    if ck ((60 * p_k) + p_i) 240 = true then
      some ((t_sheet ((60 * p_k) + p_i).toNatClampNeg).toInt64, t_fault)
    else none
  else
    (Mo_noCell p_k p_i t_sheetSize).bind fun y15 =>
    (Mo_failedLong y15 t_fault).bind fun y17 =>
    some (y17.1, y17.2)
noncomputable def Mo_cell (p_k : Int32) (p_i : Int32) (p_lane : Int32) (t_sheetSize : Nat → Int32) (t_sheetLane : Nat → Int32) (t_sheet : Nat → Int32) (t_fault : Int32) : Option (Int64 × Int32) :=
  (Mo_noSheet p_k).bind fun y1 =>
  if y1 = 0 then
    (Mo_in p_lane.toInt64 0 2).bind fun y6 =>
    if y6 = 0 then
      (Mo_lost).bind fun y23 =>
      some (y23, 0)
    else
      if ck p_k 4 = true then
        if (t_sheetSize p_k.toNatClampNeg) < 0 then
          Mo_cell_j53 p_k p_i p_lane t_sheetSize t_sheetLane t_sheet 0
        else
          if ck p_k 4 = true then
            if (t_sheetLane p_k.toNatClampNeg) = p_lane then
              Mo_cell_j53 p_k p_i p_lane t_sheetSize t_sheetLane t_sheet 0
            else
              (Mo_failedLong 2 0).bind fun y21 =>
              some (y21.1, y21.2)
          else none
      else none
  else
    (Mo_lost).bind fun y4 =>
    some (y4, 0)
set_option maxRecDepth 100000 in
set_option maxHeartbeats 4000000 in
theorem c_Mo_cell (l : Launch) (D : va_G) (cI cJ cS : ClassId) (q_t q_t_kindOf q_t_comes q_t_wants q_t_runs q_t_readKind q_t_readComes q_t_readWants q_t_queueNow q_t_servedAt q_t_comesWas q_t_readingOf q_t_readingAt q_t_sheetSize q_t_sheetLane q_t_sheet q_t_hands : Nat) (t_fault : Int32) (t_persons : Int32) (t_law : Int32) (t_bellSet : Int64) (t_readAt : Int32) (t_readLaw : Int32) (t_readMany : Int32) (t_queueMany : Int32) (t_servedNow : Int32) (t_doneAt : Int32) (t_readings : Int32) (t_whichMany : Int32) (t_whichOne : Int32) (t_whichTwo : Int32) (t_traceNow : Int32) (t_sheetSize : Nat → Int32) (t_sheetLane : Nat → Int32) (t_sheet : Nat → Int32) (p_k : Int32) (p_i : Int32) (p_lane : Int32) (o : Int64 × Int32) (hM : Mo_cell p_k p_i p_lane t_sheetSize t_sheetLane t_sheet t_fault = some o) : Cl l yX9_cell wsX9_cell rm_Mo_cell D cI cJ cS [.ref q_t, .int p_k, .int p_i, .int p_lane] (w_Mo_cell cI cJ cS q_t q_t_kindOf q_t_comes q_t_wants q_t_runs q_t_readKind q_t_readComes q_t_readWants q_t_queueNow q_t_servedAt q_t_comesWas q_t_readingOf q_t_readingAt q_t_sheetSize q_t_sheetLane q_t_sheet q_t_hands t_fault t_persons t_law t_bellSet t_readAt t_readLaw t_readMany t_queueMany t_servedNow t_doneAt t_readings t_whichMany t_whichOne t_whichTwo t_traceNow t_sheetSize t_sheetLane t_sheet) (w_Mo_cell cI cJ cS q_t q_t_kindOf q_t_comes q_t_wants q_t_runs q_t_readKind q_t_readComes q_t_readWants q_t_queueNow q_t_servedAt q_t_comesWas q_t_readingOf q_t_readingAt q_t_sheetSize q_t_sheetLane q_t_sheet q_t_hands o.2 t_persons t_law t_bellSet t_readAt t_readLaw t_readMany t_queueMany t_servedNow t_doneAt t_readings t_whichMany t_whichOne t_whichTwo t_traceNow t_sheetSize t_sheetLane t_sheet) o.1 := by
  refine Cl.of (cc := cX9_cell) (maxL := 4) (ret := (some .long)) (by decide) rfl (Nat.le_of_ble_eq_true rfl) ?_
  intro p e s m args below meth c A ls hE
  obtain ⟨hx, hb, hr, hml, hown, hts, hlocks, hK, hA, hP, hD, hS, hl⟩ := hE
  have hown : s.vm.findClass RX9 = some m.cls := hown
  have hl : lv_has ls 4 [(0, .ref q_t), (1, .int p_k), (2, .int p_i), (3, .int p_lane)] := hl
  have iX9 : ∀ w ∈ u_ws RX9 TX9 31, w ∈ wsX9_cell := by decide +kernel
  have k0 := hts (.fieldLink RX9 60 "TurnQueueModel" "fault" "I") (by decide +kernel)
  have k1 := hts (.constantLong RX9 106 (2)) (by decide +kernel)
  have k2 := hts (.fieldLink RX9 46 "TurnQueueModel" "sheetSize" "[I") (by decide +kernel)
  have k3 := hts (.fieldLink RX9 52 "TurnQueueModel" "sheet" "[I") (by decide +kernel)
  have k4 := hts (.fieldLink RX9 49 "TurnQueueModel" "sheetLane" "[I") (by decide +kernel)
  have J53 : ∀ (t_fault : Int32), Mo_cell_j53 p_k p_i p_lane t_sheetSize t_sheetLane t_sheet t_fault = some o → ∀ (H : Heap) (locs : List Loc), va_P D vwCl (w_Mo_cell cI cJ cS q_t q_t_kindOf q_t_comes q_t_wants q_t_runs q_t_readKind q_t_readComes q_t_readWants q_t_queueNow q_t_servedAt q_t_comesWas q_t_readingOf q_t_readingAt q_t_sheetSize q_t_sheetLane q_t_sheet q_t_hands t_fault t_persons t_law t_bellSet t_readAt t_readLaw t_readMany t_queueMany t_servedNow t_doneAt t_readings t_whichMany t_whichOne t_whichTwo t_traceNow t_sheetSize t_sheetLane t_sheet) H → va_D A (w_Mo_cell cI cJ cS q_t q_t_kindOf q_t_comes q_t_wants q_t_runs q_t_readKind q_t_readComes q_t_readWants q_t_queueNow q_t_servedAt q_t_comesWas q_t_readingOf q_t_readingAt q_t_sheetSize q_t_sheetLane q_t_sheet q_t_hands t_fault t_persons t_law t_bellSet t_readAt t_readLaw t_readMany t_queueMany t_servedNow t_doneAt t_readings t_whichMany t_whichOne t_whichTwo t_traceNow t_sheetSize t_sheetLane t_sheet) → va_S A s.heap H locs → ∀ ls : Array Slot, lv_has ls 4 [(0, .ref q_t), (1, .int p_k), (2, .int p_i)] → W p l e (headSpec wsX9_cell rm_Mo_cell).room s m args below meth c H locs 0 0 (MQ below (CQl D (w_Mo_cell cI cJ cS q_t q_t_kindOf q_t_comes q_t_wants q_t_runs q_t_readKind q_t_readComes q_t_readWants q_t_queueNow q_t_servedAt q_t_comesWas q_t_readingOf q_t_readingAt q_t_sheetSize q_t_sheetLane q_t_sheet q_t_hands o.2 t_persons t_law t_bellSet t_readAt t_readLaw t_readMany t_queueMany t_servedNow t_doneAt t_readings t_whichMany t_whichOne t_whichTwo t_traceNow t_sheetSize t_sheetLane t_sheet) A o.1) args s 0 0 A) (F0 m 53 ls []) := by
    intro t_fault hM H locs hP hD hS ls hl
    unfold Mo_cell_j53 at hM
    refine lv_aload_n hx hb dX9_cell_53 rfl (lv_at hl 0 rfl) ?_
    refine lv_iload_n hx hb dX9_cell_54 rfl (lv_at hl 1 rfl) ?_
    refine lv_iload_n hx hb dX9_cell_55 rfl (lv_at hl 2 rfl) ?_
    obtain ⟨y11, h12, hM⟩ := o_bd hM
    refine af_i (ws2 := (w_Mo_cell cI cJ cS q_t q_t_kindOf q_t_comes q_t_wants q_t_runs q_t_readKind q_t_readComes q_t_readWants q_t_queueNow q_t_servedAt q_t_comesWas q_t_readingOf q_t_readingAt q_t_sheetSize q_t_sheetLane q_t_sheet q_t_hands t_fault t_persons t_law t_bellSet t_readAt t_readLaw t_readMany t_queueMany t_servedNow t_doneAt t_readings t_whichMany t_whichOne t_whichTwo t_traceNow t_sheetSize t_sheetLane t_sheet)) (va_runV (As := [.int p_k, .int p_i]) (rest := []) ⟨hx, hb, hml, hown, hts⟩ (c_Mo_noCell l D cI cJ cS q_t q_t_kindOf q_t_comes q_t_wants q_t_runs q_t_readKind q_t_readComes q_t_readWants q_t_queueNow q_t_servedAt q_t_comesWas q_t_readingOf q_t_readingAt q_t_sheetSize q_t_sheetLane q_t_sheet q_t_hands t_fault t_persons t_law t_bellSet t_readAt t_readLaw t_readMany t_queueMany t_servedNow t_doneAt t_readings t_whichMany t_whichOne t_whichTwo t_traceNow t_sheetSize p_k p_i y11 h12 _) (cwV 2 hts gX9_cell_X9_noCell rfl rfl rfl (by decide +kernel) ⟨(Nat.le_of_ble_eq_true rfl), (Nat.le_of_ble_eq_true rfl)⟩) (pre_V hK hP hD [0, 1] rfl rfl rfl rfl) rfl rfl hl.1 rfl (lv_room (Nat.le_of_ble_eq_true rfl)) dX9_cell_56 ⟨Nat.zero_le _, Nat.zero_le _⟩) hP hD hS hA [0, 1] [2, 3] [2, 3, 0, 1] rfl rfl rfl (by decide) rfl rfl (fun H locs hP hD hS => ?_)
    refine lv_if_le (tgt := 75) hx hb dX9_cell_59 (by decide) (fun c13 => ?_) (fun c13 => ?_)
    · have hM := (o_if hM).1 c13
      refine lv_aload_n hx hb dX9_cell_75 rfl (lv_at hl 0 rfl) ?_
      refine va_get (ci := 8) (v := .ref q_t_sheet) (C := RX9) (T := TX9) (N := 31) hx hb hts iX9 hown hK.1 hP 0 rfl rfl 28 (Nat.le_of_ble_eq_true rfl) k3 (fun _ h9 => h9) rfl dX9_cell_76 ?_
      refine lv_bipush (v := 60) hx hb dX9_cell_79 (by decide) ?_
      refine lv_iload_n hx hb dX9_cell_81 rfl (lv_at hl 1 rfl) ?_
      refine lv_imul hx hb dX9_cell_82 ?_
      refine lv_iload_n hx hb dX9_cell_83 rfl (lv_at hl 2 rfl) ?_
      refine lv_iadd hx hb dX9_cell_84 ?_
      obtain ⟨h14, hM⟩ := o_ck hM
      refine va_iald hx hb hK.1 hP 3 0 rfl rfl h14 dX9_cell_85 ?_
      refine lv_i2l (v := (t_sheet ((60 * p_k) + p_i).toNatClampNeg).toInt64) hx hb dX9_cell_86 rfl ?_
      have hM := (Option.some.inj hM)
      subst hM
      exact rt_l hx hb hr hlocks hP hD hS dX9_cell_87
    · have hM := (o_if hM).2 c13
      refine lv_aload_n hx hb dX9_cell_62 rfl (lv_at hl 0 rfl) ?_
      refine lv_aload_n hx hb dX9_cell_63 rfl (lv_at hl 0 rfl) ?_
      refine lv_iload_n hx hb dX9_cell_64 rfl (lv_at hl 1 rfl) ?_
      refine lv_iload_n hx hb dX9_cell_65 rfl (lv_at hl 2 rfl) ?_
      obtain ⟨y15, h16, hM⟩ := o_bd hM
      refine af_i (ws2 := (w_Mo_cell cI cJ cS q_t q_t_kindOf q_t_comes q_t_wants q_t_runs q_t_readKind q_t_readComes q_t_readWants q_t_queueNow q_t_servedAt q_t_comesWas q_t_readingOf q_t_readingAt q_t_sheetSize q_t_sheetLane q_t_sheet q_t_hands t_fault t_persons t_law t_bellSet t_readAt t_readLaw t_readMany t_queueMany t_servedNow t_doneAt t_readings t_whichMany t_whichOne t_whichTwo t_traceNow t_sheetSize t_sheetLane t_sheet)) (va_runV (As := [.int p_k, .int p_i]) (rest := [.ref q_t]) ⟨hx, hb, hml, hown, hts⟩ (c_Mo_noCell l D cI cJ cS q_t q_t_kindOf q_t_comes q_t_wants q_t_runs q_t_readKind q_t_readComes q_t_readWants q_t_queueNow q_t_servedAt q_t_comesWas q_t_readingOf q_t_readingAt q_t_sheetSize q_t_sheetLane q_t_sheet q_t_hands t_fault t_persons t_law t_bellSet t_readAt t_readLaw t_readMany t_queueMany t_servedNow t_doneAt t_readings t_whichMany t_whichOne t_whichTwo t_traceNow t_sheetSize p_k p_i y15 h16 _) (cwV 2 hts gX9_cell_X9_noCell rfl rfl rfl (by decide +kernel) ⟨(Nat.le_of_ble_eq_true rfl), (Nat.le_of_ble_eq_true rfl)⟩) (pre_V hK hP hD [0, 1] rfl rfl rfl rfl) rfl rfl hl.1 rfl (lv_room (Nat.le_of_ble_eq_true rfl)) dX9_cell_66 ⟨Nat.zero_le _, Nat.zero_le _⟩) hP hD hS hA [0, 1] [2, 3] [2, 3, 0, 1] rfl rfl rfl (by decide) rfl rfl (fun H locs hP hD hS => ?_)
      obtain ⟨y17, h18, hM⟩ := o_bd hM
      refine af_l (ws2 := (w_Mo_cell cI cJ cS q_t q_t_kindOf q_t_comes q_t_wants q_t_runs q_t_readKind q_t_readComes q_t_readWants q_t_queueNow q_t_servedAt q_t_comesWas q_t_readingOf q_t_readingAt q_t_sheetSize q_t_sheetLane q_t_sheet q_t_hands y17.2 t_persons t_law t_bellSet t_readAt t_readLaw t_readMany t_queueMany t_servedNow t_doneAt t_readings t_whichMany t_whichOne t_whichTwo t_traceNow t_sheetSize t_sheetLane t_sheet)) (va_runV (As := [.int y15]) (rest := []) ⟨hx, hb, hml, hown, hts⟩ (c_Mo_failedLong l D cI cJ cS q_t q_t_kindOf q_t_comes q_t_wants q_t_runs q_t_readKind q_t_readComes q_t_readWants q_t_queueNow q_t_servedAt q_t_comesWas q_t_readingOf q_t_readingAt q_t_sheetSize q_t_sheetLane q_t_sheet q_t_hands t_fault t_persons t_law t_bellSet t_readAt t_readLaw t_readMany t_queueMany t_servedNow t_doneAt t_readings t_whichMany t_whichOne t_whichTwo t_traceNow y15 y17 h18 _) (cwV 1 hts gX9_cell_X9_failedLong rfl rfl rfl (by decide +kernel) ⟨(Nat.le_of_ble_eq_true rfl), (Nat.le_of_ble_eq_true rfl)⟩) (pre_V hK hP hD [0] rfl rfl rfl rfl) rfl rfl hl.1 rfl (lv_room (Nat.le_of_ble_eq_true rfl)) dX9_cell_69 ⟨Nat.zero_le _, Nat.zero_le _⟩) hP hD hS hA [0] [1, 2, 3] [3, 0, 1, 2] rfl rfl rfl (by decide) rfl rfl (fun H locs hP hD hS => ?_)
      refine lv_goto (tgt := 87) hx hb dX9_cell_72 (by decide) ?_
      have hM := (Option.some.inj hM)
      subst hM
      exact rt_l hx hb hr hlocks hP hD hS dX9_cell_87
  unfold Mo_cell at hM
  refine lv_aload_n hx hb dX9_cell_0 rfl (lv_at hl 0 rfl) ?_
  refine lv_iconst (v := 0) hx hb dX9_cell_1 (by decide) ?_
  refine va_put (ci := 8) (v := .int 0) (ty := .int) (C := RX9) (T := TX9) (N := 31) hx hb hts iX9 tyX9 tyX9_ok nmX9 hown hK.1 hP hD hS 0 rfl rfl 0 (Nat.le_of_ble_eq_true rfl) k0 (fun _ h9 => h9) rfl (tyX9_ok 0 (Nat.le_of_ble_eq_true rfl)) rfl rfl (Nat.le_of_ble_eq_true rfl) dX9_cell_2 (fun H locs hP hD hS => ?_)
  have hP : va_P D vwCl (w_Mo_cell cI cJ cS q_t q_t_kindOf q_t_comes q_t_wants q_t_runs q_t_readKind q_t_readComes q_t_readWants q_t_queueNow q_t_servedAt q_t_comesWas q_t_readingOf q_t_readingAt q_t_sheetSize q_t_sheetLane q_t_sheet q_t_hands 0 t_persons t_law t_bellSet t_readAt t_readLaw t_readMany t_queueMany t_servedNow t_doneAt t_readings t_whichMany t_whichOne t_whichTwo t_traceNow t_sheetSize t_sheetLane t_sheet) H := hP
  have hD : va_D A (w_Mo_cell cI cJ cS q_t q_t_kindOf q_t_comes q_t_wants q_t_runs q_t_readKind q_t_readComes q_t_readWants q_t_queueNow q_t_servedAt q_t_comesWas q_t_readingOf q_t_readingAt q_t_sheetSize q_t_sheetLane q_t_sheet q_t_hands 0 t_persons t_law t_bellSet t_readAt t_readLaw t_readMany t_queueMany t_servedNow t_doneAt t_readings t_whichMany t_whichOne t_whichTwo t_traceNow t_sheetSize t_sheetLane t_sheet) := hD
  refine lv_iload_n hx hb dX9_cell_5 rfl (lv_at hl 1 rfl) ?_
  obtain ⟨y1, h2, hM⟩ := o_bd hM
  refine af_i (ws2 := (w_Mo_cell cI cJ cS q_t q_t_kindOf q_t_comes q_t_wants q_t_runs q_t_readKind q_t_readComes q_t_readWants q_t_queueNow q_t_servedAt q_t_comesWas q_t_readingOf q_t_readingAt q_t_sheetSize q_t_sheetLane q_t_sheet q_t_hands 0 t_persons t_law t_bellSet t_readAt t_readLaw t_readMany t_queueMany t_servedNow t_doneAt t_readings t_whichMany t_whichOne t_whichTwo t_traceNow t_sheetSize t_sheetLane t_sheet)) (va_runS (As := [.int p_k]) (rest := []) ⟨hx, hb, hml, hown, hts⟩ (c_Mo_noSheet l D cI cJ cS p_k y1 h2 _) (va_cwS 1 hts gX9_cell_X9_noSheet rfl rfl rfl (by decide +kernel) ⟨(Nat.le_of_ble_eq_true rfl), (Nat.le_of_ble_eq_true rfl)⟩) (pre_S hK hP hD [] rfl rfl) rfl rfl hl.1 rfl (lv_room (Nat.le_of_ble_eq_true rfl)) dX9_cell_6 ⟨Nat.zero_le _, Nat.zero_le _⟩) hP hD hS hA [] [0, 1, 2, 3] [0, 1, 2, 3] rfl rfl rfl (by decide) rfl rfl (fun H locs hP hD hS => ?_)
  refine lv_if_ne (tgt := 24) hx hb dX9_cell_9 (by decide) (fun c3 => ?_) (fun c3 => ?_)
  · have hM := (o_if hM).2 c3
    obtain ⟨y4, h5, hM⟩ := o_bd hM
    refine af_l (ws2 := (w_Mo_cell cI cJ cS q_t q_t_kindOf q_t_comes q_t_wants q_t_runs q_t_readKind q_t_readComes q_t_readWants q_t_queueNow q_t_servedAt q_t_comesWas q_t_readingOf q_t_readingAt q_t_sheetSize q_t_sheetLane q_t_sheet q_t_hands 0 t_persons t_law t_bellSet t_readAt t_readLaw t_readMany t_queueMany t_servedNow t_doneAt t_readings t_whichMany t_whichOne t_whichTwo t_traceNow t_sheetSize t_sheetLane t_sheet)) (va_runS (As := []) (rest := []) ⟨hx, hb, hml, hown, hts⟩ (c_Mo_lost l D cI cJ cS y4 h5 _) (va_cwS 0 hts gX9_cell_X9_lost rfl rfl rfl (by decide +kernel) ⟨(Nat.le_of_ble_eq_true rfl), (Nat.le_of_ble_eq_true rfl)⟩) (pre_S hK hP hD [] rfl rfl) rfl rfl hl.1 rfl (lv_room (Nat.le_of_ble_eq_true rfl)) dX9_cell_24 ⟨Nat.zero_le _, Nat.zero_le _⟩) hP hD hS hA [] [0, 1, 2, 3] [0, 1, 2, 3] rfl rfl rfl (by decide) rfl rfl (fun H locs hP hD hS => ?_)
    have hM := (Option.some.inj hM)
    subst hM
    exact rt_l hx hb hr hlocks hP hD hS dX9_cell_27
  · have hM := (o_if hM).1 c3
    refine lv_iload_n hx hb dX9_cell_12 rfl (lv_at hl 3 rfl) ?_
    refine lv_i2l (v := p_lane.toInt64) hx hb dX9_cell_13 rfl ?_
    refine lv_lconst (v := 0) hx hb dX9_cell_14 (by decide) ?_
    refine lv_ldc2 (v := 2) hx hb hown k1 dX9_cell_15 ?_
    obtain ⟨y6, h7, hM⟩ := o_bd hM
    refine af_i (ws2 := (w_Mo_cell cI cJ cS q_t q_t_kindOf q_t_comes q_t_wants q_t_runs q_t_readKind q_t_readComes q_t_readWants q_t_queueNow q_t_servedAt q_t_comesWas q_t_readingOf q_t_readingAt q_t_sheetSize q_t_sheetLane q_t_sheet q_t_hands 0 t_persons t_law t_bellSet t_readAt t_readLaw t_readMany t_queueMany t_servedNow t_doneAt t_readings t_whichMany t_whichOne t_whichTwo t_traceNow t_sheetSize t_sheetLane t_sheet)) (va_runS (As := [.long p_lane.toInt64, .long 0, .long 2]) (rest := []) ⟨hx, hb, hml, hown, hts⟩ (c_Mo_in l D cI cJ cS p_lane.toInt64 0 2 y6 h7 _) (va_cwS 3 hts gX9_cell_X9_in rfl rfl rfl (by decide +kernel) ⟨(Nat.le_of_ble_eq_true rfl), (Nat.le_of_ble_eq_true rfl)⟩) (pre_S hK hP hD [] rfl rfl) rfl rfl hl.1 rfl (lv_room (Nat.le_of_ble_eq_true rfl)) dX9_cell_18 ⟨Nat.zero_le _, Nat.zero_le _⟩) hP hD hS hA [] [0, 1, 2, 3] [0, 1, 2, 3] rfl rfl rfl (by decide) rfl rfl (fun H locs hP hD hS => ?_)
    refine lv_if_ne (tgt := 28) hx hb dX9_cell_21 (by decide) (fun c8 => ?_) (fun c8 => ?_)
    · have hM := (o_if hM).2 c8
      refine lv_aload_n hx hb dX9_cell_28 rfl (lv_at hl 0 rfl) ?_
      refine va_get (ci := 8) (v := .ref q_t_sheetSize) (C := RX9) (T := TX9) (N := 31) hx hb hts iX9 hown hK.1 hP 0 rfl rfl 26 (Nat.le_of_ble_eq_true rfl) k2 (fun _ h9 => h9) rfl dX9_cell_29 ?_
      refine lv_iload_n hx hb dX9_cell_32 rfl (lv_at hl 1 rfl) ?_
      obtain ⟨h9, hM⟩ := o_ck hM
      refine va_iald hx hb hK.1 hP 1 0 rfl rfl h9 dX9_cell_33 ?_
      refine lv_if_lt (tgt := 53) hx hb dX9_cell_34 (by decide) (fun c10 => ?_) (fun c10 => ?_)
      · have hM := (o_if hM).1 c10
        exact J53 0 hM _ _ hP hD hS _ (lv_sub hl [0, 1, 2] rfl)
      · have hM := (o_if hM).2 c10
        refine lv_aload_n hx hb dX9_cell_37 rfl (lv_at hl 0 rfl) ?_
        refine va_get (ci := 8) (v := .ref q_t_sheetLane) (C := RX9) (T := TX9) (N := 31) hx hb hts iX9 hown hK.1 hP 0 rfl rfl 27 (Nat.le_of_ble_eq_true rfl) k4 (fun _ h9 => h9) rfl dX9_cell_38 ?_
        refine lv_iload_n hx hb dX9_cell_41 rfl (lv_at hl 1 rfl) ?_
        obtain ⟨h19, hM⟩ := o_ck hM
        refine va_iald hx hb hK.1 hP 2 0 rfl rfl h19 dX9_cell_42 ?_
        refine lv_iload_n hx hb dX9_cell_43 rfl (lv_at hl 3 rfl) ?_
        refine lv_icmp_eq (tgt := 53) hx hb dX9_cell_44 (by decide) (fun c20 => ?_) (fun c20 => ?_)
        · have hM := (o_if hM).1 c20
          exact J53 0 hM _ _ hP hD hS _ (lv_sub hl [0, 1, 2] rfl)
        · have hM := (o_if hM).2 c20
          refine lv_aload_n hx hb dX9_cell_47 rfl (lv_at hl 0 rfl) ?_
          refine lv_iconst (v := 2) hx hb dX9_cell_48 (by decide) ?_
          obtain ⟨y21, h22, hM⟩ := o_bd hM
          refine af_l (ws2 := (w_Mo_cell cI cJ cS q_t q_t_kindOf q_t_comes q_t_wants q_t_runs q_t_readKind q_t_readComes q_t_readWants q_t_queueNow q_t_servedAt q_t_comesWas q_t_readingOf q_t_readingAt q_t_sheetSize q_t_sheetLane q_t_sheet q_t_hands y21.2 t_persons t_law t_bellSet t_readAt t_readLaw t_readMany t_queueMany t_servedNow t_doneAt t_readings t_whichMany t_whichOne t_whichTwo t_traceNow t_sheetSize t_sheetLane t_sheet)) (va_runV (As := [.int 2]) (rest := []) ⟨hx, hb, hml, hown, hts⟩ (c_Mo_failedLong l D cI cJ cS q_t q_t_kindOf q_t_comes q_t_wants q_t_runs q_t_readKind q_t_readComes q_t_readWants q_t_queueNow q_t_servedAt q_t_comesWas q_t_readingOf q_t_readingAt q_t_sheetSize q_t_sheetLane q_t_sheet q_t_hands 0 t_persons t_law t_bellSet t_readAt t_readLaw t_readMany t_queueMany t_servedNow t_doneAt t_readings t_whichMany t_whichOne t_whichTwo t_traceNow 2 y21 h22 _) (cwV 1 hts gX9_cell_X9_failedLong rfl rfl rfl (by decide +kernel) ⟨(Nat.le_of_ble_eq_true rfl), (Nat.le_of_ble_eq_true rfl)⟩) (pre_V hK hP hD [0] rfl rfl rfl rfl) rfl rfl hl.1 rfl (lv_room (Nat.le_of_ble_eq_true rfl)) dX9_cell_49 ⟨Nat.zero_le _, Nat.zero_le _⟩) hP hD hS hA [0] [1, 2, 3] [3, 0, 1, 2] rfl rfl rfl (by decide) rfl rfl (fun H locs hP hD hS => ?_)
          have hM := (Option.some.inj hM)
          subst hM
          exact rt_l hx hb hr hlocks hP hD hS dX9_cell_52
    · have hM := (o_if hM).1 c8
      obtain ⟨y23, h24, hM⟩ := o_bd hM
      refine af_l (ws2 := (w_Mo_cell cI cJ cS q_t q_t_kindOf q_t_comes q_t_wants q_t_runs q_t_readKind q_t_readComes q_t_readWants q_t_queueNow q_t_servedAt q_t_comesWas q_t_readingOf q_t_readingAt q_t_sheetSize q_t_sheetLane q_t_sheet q_t_hands 0 t_persons t_law t_bellSet t_readAt t_readLaw t_readMany t_queueMany t_servedNow t_doneAt t_readings t_whichMany t_whichOne t_whichTwo t_traceNow t_sheetSize t_sheetLane t_sheet)) (va_runS (As := []) (rest := []) ⟨hx, hb, hml, hown, hts⟩ (c_Mo_lost l D cI cJ cS y23 h24 _) (va_cwS 0 hts gX9_cell_X9_lost rfl rfl rfl (by decide +kernel) ⟨(Nat.le_of_ble_eq_true rfl), (Nat.le_of_ble_eq_true rfl)⟩) (pre_S hK hP hD [] rfl rfl) rfl rfl hl.1 rfl (lv_room (Nat.le_of_ble_eq_true rfl)) dX9_cell_24 ⟨Nat.zero_le _, Nat.zero_le _⟩) hP hD hS hA [] [0, 1, 2, 3] [0, 1, 2, 3] rfl rfl rfl (by decide) rfl rfl (fun H locs hP hD hS => ?_)
      have hM := (Option.some.inj hM)
      subst hM
      exact rt_l hx hb hr hlocks hP hD hS dX9_cell_27
/-! ===== TurnQueueModel.copy ===== -/
abbrev w_Mo_copy (cI cJ cS : ClassId) (q_t : Nat) (q_t_kindOf : Nat) (q_t_comes : Nat) (q_t_wants : Nat) (q_t_runs : Nat) (q_t_readKind : Nat) (q_t_readComes : Nat) (q_t_readWants : Nat) (q_t_queueNow : Nat) (q_t_servedAt : Nat) (q_t_comesWas : Nat) (q_t_readingOf : Nat) (q_t_readingAt : Nat) (q_t_sheetSize : Nat) (q_t_sheetLane : Nat) (q_t_sheet : Nat) (q_t_hands : Nat) (t_fault : Int32) (t_persons : Int32) (t_law : Int32) (t_bellSet : Int64) (t_readAt : Int32) (t_readLaw : Int32) (t_readMany : Int32) (t_queueMany : Int32) (t_servedNow : Int32) (t_doneAt : Int32) (t_readings : Int32) (t_whichMany : Int32) (t_whichOne : Int32) (t_whichTwo : Int32) (t_traceNow : Int32) (t_sheetSize : Nat → Int32) (t_sheetLane : Nat → Int32) (t_sheet : Nat → Int32) (t_hands : Nat → Int32) : va_W := [(q_t, .inr (8, [.int t_fault, .int t_persons, .int t_law, .ref q_t_kindOf, .ref q_t_comes, .ref q_t_wants, .ref q_t_runs, .long t_bellSet, .int t_readAt, .int t_readLaw, .int t_readMany, .ref q_t_readKind, .ref q_t_readComes, .ref q_t_readWants, .ref q_t_queueNow, .int t_queueMany, .int t_servedNow, .int t_doneAt, .ref q_t_servedAt, .ref q_t_comesWas, .int t_readings, .ref q_t_readingOf, .ref q_t_readingAt, .int t_whichMany, .int t_whichOne, .int t_whichTwo, .ref q_t_sheetSize, .ref q_t_sheetLane, .ref q_t_sheet, .ref q_t_hands, .int t_traceNow])), (q_t_sheetSize, ar cI 4 t_sheetSize), (q_t_sheetLane, ar cI 4 t_sheetLane), (q_t_sheet, ar cI 240 t_sheet), (q_t_hands, ar cI 60 t_hands)]
abbrev rm_Mo_copy : Room := { frames := 2, cells := 0, slots := 0, locals := 45 }
noncomputable def Mo_copy_b144 (p_k : Int32) (p_i : Int32) (p_o : Int32) (p_j : Int32) (p_n : Int32) (t_sheetSize : Nat → Int32) (t_sheetLane : Nat → Int32) (x6 : Int32) (t_fault : Int32) (t_sheet : Nat → Int32) (t_hands : Nat → Int32) : Option ((Int32 × Int32 × (Nat → Int32) × (Nat → Int32)) ⊕ (Int32 × Int32 × (Nat → Int32) × (Nat → Int32))) :=
  if p_n ≤ x6 then
    (Mo_refused p_n t_fault).bind fun y30 =>
    some (.inr (y30.1, y30.2, t_sheet, t_hands))
  else
    if ck x6 60 = true then
      lt (t_hands x6.toNatClampNeg) fun y33 =>
      if ck (((60 * p_o) + p_j) + x6) 240 = true then
        lt (x6 + 1) fun y35 =>
        some (.inl (y35, t_fault, upd t_sheet (((60 * p_o) + p_j) + x6).toNatClampNeg y33, t_hands))
      else none
    else none
noncomputable def Mo_copy_s144 (p_k : Int32) (p_i : Int32) (p_o : Int32) (p_j : Int32) (p_n : Int32) (t_sheetSize : Nat → Int32) (t_sheetLane : Nat → Int32) : (Int32 × Int32 × (Nat → Int32) × (Nat → Int32)) → Option ((Int32 × Int32 × (Nat → Int32) × (Nat → Int32)) ⊕ (Int32 × Int32 × (Nat → Int32) × (Nat → Int32))) := fun x => Mo_copy_b144 p_k p_i p_o p_j p_n t_sheetSize t_sheetLane x.1 x.2.1 x.2.2.1 x.2.2.2
noncomputable def Mo_copy_l144 (p_k : Int32) (p_i : Int32) (p_o : Int32) (p_j : Int32) (p_n : Int32) (t_sheetSize : Nat → Int32) (t_sheetLane : Nat → Int32) (x6 : Int32) (t_fault : Int32) (t_sheet : Nat → Int32) (t_hands : Nat → Int32) : Option (Int32 × Int32 × (Nat → Int32) × (Nat → Int32)) := fin (Mo_copy_s144 p_k p_i p_o p_j p_n t_sheetSize t_sheetLane) (x6, t_fault, t_sheet, t_hands)
noncomputable def Mo_copy_b107 (p_k : Int32) (p_i : Int32) (p_o : Int32) (p_j : Int32) (p_n : Int32) (t_sheetSize : Nat → Int32) (t_sheetLane : Nat → Int32) (x6 : Int32) (t_fault : Int32) (t_sheet : Nat → Int32) (t_hands : Nat → Int32) : Option ((Int32 × Int32 × (Nat → Int32) × (Nat → Int32)) ⊕ (Int32 × Int32 × (Nat → Int32) × (Nat → Int32))) :=
  if p_n ≤ x6 then
    ex (Mo_copy_l144 p_k p_i p_o p_j p_n t_sheetSize t_sheetLane 0 t_fault t_sheet t_hands)
  else
    if ck (((60 * p_k) + p_i) + x6) 240 = true then
      lt (t_sheet (((60 * p_k) + p_i) + x6).toNatClampNeg) fun y37 =>
      if ck x6 60 = true then
        lt (x6 + 1) fun y39 =>
        some (.inl (y39, t_fault, t_sheet, upd t_hands x6.toNatClampNeg y37))
      else none
    else none
noncomputable def Mo_copy_s107 (p_k : Int32) (p_i : Int32) (p_o : Int32) (p_j : Int32) (p_n : Int32) (t_sheetSize : Nat → Int32) (t_sheetLane : Nat → Int32) : (Int32 × Int32 × (Nat → Int32) × (Nat → Int32)) → Option ((Int32 × Int32 × (Nat → Int32) × (Nat → Int32)) ⊕ (Int32 × Int32 × (Nat → Int32) × (Nat → Int32))) := fun x => Mo_copy_b107 p_k p_i p_o p_j p_n t_sheetSize t_sheetLane x.1 x.2.1 x.2.2.1 x.2.2.2
noncomputable def Mo_copy_l107 (p_k : Int32) (p_i : Int32) (p_o : Int32) (p_j : Int32) (p_n : Int32) (t_sheetSize : Nat → Int32) (t_sheetLane : Nat → Int32) (x6 : Int32) (t_fault : Int32) (t_sheet : Nat → Int32) (t_hands : Nat → Int32) : Option (Int32 × Int32 × (Nat → Int32) × (Nat → Int32)) := fin (Mo_copy_s107 p_k p_i p_o p_j p_n t_sheetSize t_sheetLane) (x6, t_fault, t_sheet, t_hands)
noncomputable def Mo_copy (p_k : Int32) (p_i : Int32) (p_o : Int32) (p_j : Int32) (p_n : Int32) (t_sheetSize : Nat → Int32) (t_sheetLane : Nat → Int32) (t_fault : Int32) (t_sheet : Nat → Int32) (t_hands : Nat → Int32) : Option (Int32 × Int32 × (Nat → Int32) × (Nat → Int32)) :=
  (Mo_noSheet p_k).bind fun y1 =>
  if y1 = 0 then
    (Mo_noSheet p_o).bind fun y6 =>
    if y6 = 0 then
      if ck p_k 4 = true then
        if (t_sheetSize p_k.toNatClampNeg) < 0 then
          (Mo_failed 1 t_fault).bind fun y11 =>
          some (y11.1, y11.2, t_sheet, t_hands)
        else
          if ck p_o 4 = true then
            if 0 ≤ (t_sheetSize p_o.toNatClampNeg) then
              if ck p_k 4 = true then
                if ck p_o 4 = true then
                  if (t_sheetLane p_k.toNatClampNeg) = (t_sheetLane p_o.toNatClampNeg) then
                    if ck p_k 4 = true then
                      (Mo_isBeyond p_i p_n.toInt64 (t_sheetSize p_k.toNatClampNeg)).bind fun y19 =>
                      if y19 = 0 then
                        if ck p_o 4 = true then
                          (Mo_isBeyond p_j p_n.toInt64 (t_sheetSize p_o.toNatClampNeg)).bind fun y25 =>
                          if y25 = 0 then
                            Mo_copy_l107 p_k p_i p_o p_j p_n t_sheetSize t_sheetLane 0 t_fault t_sheet t_hands
                          else
                            (Mo_failed 3 t_fault).bind fun y40 =>
                            some (y40.1, y40.2, t_sheet, t_hands)
                        else none
                      else
                        (Mo_failed 3 t_fault).bind fun y22 =>
                        some (y22.1, y22.2, t_sheet, t_hands)
                    else none
                  else
                    (Mo_failed 2 t_fault).bind fun y42 =>
                    some (y42.1, y42.2, t_sheet, t_hands)
                else none
              else none
            else
              (Mo_failed 1 t_fault).bind fun y44 =>
              some (y44.1, y44.2, t_sheet, t_hands)
          else none
      else none
    else
      (Mo_refused (-1) t_fault).bind fun y46 =>
      some (y46.1, y46.2, t_sheet, t_hands)
  else
    (Mo_refused (-1) t_fault).bind fun y4 =>
    some (y4.1, y4.2, t_sheet, t_hands)
theorem Mo_copy_l144_eq (p_k : Int32) (p_i : Int32) (p_o : Int32) (p_j : Int32) (p_n : Int32) (t_sheetSize : Nat → Int32) (t_sheetLane : Nat → Int32) (x6 : Int32) (t_fault : Int32) (t_sheet : Nat → Int32) (t_hands : Nat → Int32) : Mo_copy_l144 p_k p_i p_o p_j p_n t_sheetSize t_sheetLane x6 t_fault t_sheet t_hands = (Mo_copy_b144 p_k p_i p_o p_j p_n t_sheetSize t_sheetLane x6 t_fault t_sheet t_hands).bind (sg (fin (Mo_copy_s144 p_k p_i p_o p_j p_n t_sheetSize t_sheetLane))) := by
  unfold Mo_copy_l144
  exact fin_eq _ _
theorem Mo_copy_l144_fd (p_k : Int32) (p_i : Int32) (p_o : Int32) (p_j : Int32) (p_n : Int32) (t_sheetSize : Nat → Int32) (t_sheetLane : Nat → Int32) (x6 : Int32) (t_fault : Int32) (t_sheet : Nat → Int32) (t_hands : Nat → Int32) : fin (Mo_copy_s144 p_k p_i p_o p_j p_n t_sheetSize t_sheetLane) (x6, t_fault, t_sheet, t_hands) = Mo_copy_l144 p_k p_i p_o p_j p_n t_sheetSize t_sheetLane x6 t_fault t_sheet t_hands := rfl
theorem Mo_copy_l107_eq (p_k : Int32) (p_i : Int32) (p_o : Int32) (p_j : Int32) (p_n : Int32) (t_sheetSize : Nat → Int32) (t_sheetLane : Nat → Int32) (x6 : Int32) (t_fault : Int32) (t_sheet : Nat → Int32) (t_hands : Nat → Int32) : Mo_copy_l107 p_k p_i p_o p_j p_n t_sheetSize t_sheetLane x6 t_fault t_sheet t_hands = (Mo_copy_b107 p_k p_i p_o p_j p_n t_sheetSize t_sheetLane x6 t_fault t_sheet t_hands).bind (sg (fin (Mo_copy_s107 p_k p_i p_o p_j p_n t_sheetSize t_sheetLane))) := by
  unfold Mo_copy_l107
  exact fin_eq _ _
theorem Mo_copy_l107_fd (p_k : Int32) (p_i : Int32) (p_o : Int32) (p_j : Int32) (p_n : Int32) (t_sheetSize : Nat → Int32) (t_sheetLane : Nat → Int32) (x6 : Int32) (t_fault : Int32) (t_sheet : Nat → Int32) (t_hands : Nat → Int32) : fin (Mo_copy_s107 p_k p_i p_o p_j p_n t_sheetSize t_sheetLane) (x6, t_fault, t_sheet, t_hands) = Mo_copy_l107 p_k p_i p_o p_j p_n t_sheetSize t_sheetLane x6 t_fault t_sheet t_hands := rfl
set_option maxRecDepth 100000 in
set_option maxHeartbeats 4000000 in
theorem c_Mo_copy (l : Launch) (D : va_G) (cI cJ cS : ClassId) (q_t q_t_kindOf q_t_comes q_t_wants q_t_runs q_t_readKind q_t_readComes q_t_readWants q_t_queueNow q_t_servedAt q_t_comesWas q_t_readingOf q_t_readingAt q_t_sheetSize q_t_sheetLane q_t_sheet q_t_hands : Nat) (t_fault : Int32) (t_persons : Int32) (t_law : Int32) (t_bellSet : Int64) (t_readAt : Int32) (t_readLaw : Int32) (t_readMany : Int32) (t_queueMany : Int32) (t_servedNow : Int32) (t_doneAt : Int32) (t_readings : Int32) (t_whichMany : Int32) (t_whichOne : Int32) (t_whichTwo : Int32) (t_traceNow : Int32) (t_sheetSize : Nat → Int32) (t_sheetLane : Nat → Int32) (t_sheet : Nat → Int32) (t_hands : Nat → Int32) (p_k : Int32) (p_i : Int32) (p_o : Int32) (p_j : Int32) (p_n : Int32) (o : Int32 × Int32 × (Nat → Int32) × (Nat → Int32)) (hM : Mo_copy p_k p_i p_o p_j p_n t_sheetSize t_sheetLane t_fault t_sheet t_hands = some o) : Ci l yX9_copy wsX9_copy rm_Mo_copy D cI cJ cS [.ref q_t, .int p_k, .int p_i, .int p_o, .int p_j, .int p_n] (w_Mo_copy cI cJ cS q_t q_t_kindOf q_t_comes q_t_wants q_t_runs q_t_readKind q_t_readComes q_t_readWants q_t_queueNow q_t_servedAt q_t_comesWas q_t_readingOf q_t_readingAt q_t_sheetSize q_t_sheetLane q_t_sheet q_t_hands t_fault t_persons t_law t_bellSet t_readAt t_readLaw t_readMany t_queueMany t_servedNow t_doneAt t_readings t_whichMany t_whichOne t_whichTwo t_traceNow t_sheetSize t_sheetLane t_sheet t_hands) (w_Mo_copy cI cJ cS q_t q_t_kindOf q_t_comes q_t_wants q_t_runs q_t_readKind q_t_readComes q_t_readWants q_t_queueNow q_t_servedAt q_t_comesWas q_t_readingOf q_t_readingAt q_t_sheetSize q_t_sheetLane q_t_sheet q_t_hands o.2.1 t_persons t_law t_bellSet t_readAt t_readLaw t_readMany t_queueMany t_servedNow t_doneAt t_readings t_whichMany t_whichOne t_whichTwo t_traceNow t_sheetSize t_sheetLane o.2.2.1 o.2.2.2) o.1 := by
  refine Ci.of (cc := cX9_copy) (maxL := 7) (ret := (some .int)) (by decide) rfl (Nat.le_of_ble_eq_true rfl) ?_
  intro p e s m args below meth c A ls hE
  obtain ⟨hx, hb, hr, hml, hown, hts, hlocks, hK, hA, hP, hD, hS, hl⟩ := hE
  have hown : s.vm.findClass RX9 = some m.cls := hown
  have hl : lv_has ls 7 [(0, .ref q_t), (1, .int p_k), (2, .int p_i), (3, .int p_o), (4, .int p_j), (5, .int p_n)] := hl
  have iX9 : ∀ w ∈ u_ws RX9 TX9 31, w ∈ wsX9_copy := by decide +kernel
  have k0 := hts (.fieldLink RX9 46 "TurnQueueModel" "sheetSize" "[I") (by decide +kernel)
  have k1 := hts (.fieldLink RX9 49 "TurnQueueModel" "sheetLane" "[I") (by decide +kernel)
  have k2 := hts (.fieldLink RX9 52 "TurnQueueModel" "sheet" "[I") (by decide +kernel)
  have k3 := hts (.fieldLink RX9 55 "TurnQueueModel" "hands" "[I") (by decide +kernel)
  have L144 : ∀ n : Nat, (∀ (x6 : Int32) (t_fault : Int32) (t_sheet : Nat → Int32) (t_hands : Nat → Int32), itr (Mo_copy_s144 p_k p_i p_o p_j p_n t_sheetSize t_sheetLane) n (x6, t_fault, t_sheet, t_hands) = some o → ∀ (H : Heap) (locs : List Loc), va_P D vwCl (w_Mo_copy cI cJ cS q_t q_t_kindOf q_t_comes q_t_wants q_t_runs q_t_readKind q_t_readComes q_t_readWants q_t_queueNow q_t_servedAt q_t_comesWas q_t_readingOf q_t_readingAt q_t_sheetSize q_t_sheetLane q_t_sheet q_t_hands t_fault t_persons t_law t_bellSet t_readAt t_readLaw t_readMany t_queueMany t_servedNow t_doneAt t_readings t_whichMany t_whichOne t_whichTwo t_traceNow t_sheetSize t_sheetLane t_sheet t_hands) H → va_D A (w_Mo_copy cI cJ cS q_t q_t_kindOf q_t_comes q_t_wants q_t_runs q_t_readKind q_t_readComes q_t_readWants q_t_queueNow q_t_servedAt q_t_comesWas q_t_readingOf q_t_readingAt q_t_sheetSize q_t_sheetLane q_t_sheet q_t_hands t_fault t_persons t_law t_bellSet t_readAt t_readLaw t_readMany t_queueMany t_servedNow t_doneAt t_readings t_whichMany t_whichOne t_whichTwo t_traceNow t_sheetSize t_sheetLane t_sheet t_hands) → va_S A s.heap H locs → ∀ ls : Array Slot, lv_has ls 7 [(0, .ref q_t), (3, .int p_o), (4, .int p_j), (5, .int p_n), (6, .int x6)] → W p l e (headSpec wsX9_copy rm_Mo_copy).room s m args below meth c H locs 0 0 (MQ below (CQi D (w_Mo_copy cI cJ cS q_t q_t_kindOf q_t_comes q_t_wants q_t_runs q_t_readKind q_t_readComes q_t_readWants q_t_queueNow q_t_servedAt q_t_comesWas q_t_readingOf q_t_readingAt q_t_sheetSize q_t_sheetLane q_t_sheet q_t_hands o.2.1 t_persons t_law t_bellSet t_readAt t_readLaw t_readMany t_queueMany t_servedNow t_doneAt t_readings t_whichMany t_whichOne t_whichTwo t_traceNow t_sheetSize t_sheetLane o.2.2.1 o.2.2.2) A o.1) args s 0 0 A) (F0 m 144 ls [])) := by
    intro n
    induction n with
    | zero => exact fun _ _ _ _ hM => (itr_0 hM).elim
    | succ n ih =>
      intro x6 t_fault t_sheet t_hands hM H locs hP hD hS ls hl
      have hM : (Mo_copy_b144 p_k p_i p_o p_j p_n t_sheetSize t_sheetLane x6 t_fault t_sheet t_hands).bind (sg (itr (Mo_copy_s144 p_k p_i p_o p_j p_n t_sheetSize t_sheetLane) n)) = some o := hM
      unfold Mo_copy_b144 at hM
      refine lv_iload hx hb dX9_copy_144 (lv_at hl 4 rfl) ?_
      refine lv_iload hx hb dX9_copy_146 (lv_at hl 3 rfl) ?_
      refine lv_icmp_ge (tgt := 179) hx hb dX9_copy_148 (by decide) (fun c29 => ?_) (fun c29 => ?_)
      · have hM := (s_if hM).1 c29
        refine lv_aload_n hx hb dX9_copy_179 rfl (lv_at hl 0 rfl) ?_
        refine lv_iload hx hb dX9_copy_180 (lv_at hl 3 rfl) ?_
        obtain ⟨y30, h31, hM⟩ := s_bd hM
        refine af_i (ws2 := (w_Mo_copy cI cJ cS q_t q_t_kindOf q_t_comes q_t_wants q_t_runs q_t_readKind q_t_readComes q_t_readWants q_t_queueNow q_t_servedAt q_t_comesWas q_t_readingOf q_t_readingAt q_t_sheetSize q_t_sheetLane q_t_sheet q_t_hands y30.2 t_persons t_law t_bellSet t_readAt t_readLaw t_readMany t_queueMany t_servedNow t_doneAt t_readings t_whichMany t_whichOne t_whichTwo t_traceNow t_sheetSize t_sheetLane t_sheet t_hands)) (va_runV (As := [.int p_n]) (rest := []) ⟨hx, hb, hml, hown, hts⟩ (c_Mo_refused l D cI cJ cS q_t q_t_kindOf q_t_comes q_t_wants q_t_runs q_t_readKind q_t_readComes q_t_readWants q_t_queueNow q_t_servedAt q_t_comesWas q_t_readingOf q_t_readingAt q_t_sheetSize q_t_sheetLane q_t_sheet q_t_hands t_fault t_persons t_law t_bellSet t_readAt t_readLaw t_readMany t_queueMany t_servedNow t_doneAt t_readings t_whichMany t_whichOne t_whichTwo t_traceNow p_n y30 h31 _) (cwV 1 hts gX9_copy_X9_refused rfl rfl rfl (by decide +kernel) ⟨(Nat.le_of_ble_eq_true rfl), (Nat.le_of_ble_eq_true rfl)⟩) (pre_V hK hP hD [0] rfl rfl rfl rfl) rfl rfl hl.1 rfl (lv_room (Nat.le_of_ble_eq_true rfl)) dX9_copy_182 ⟨Nat.zero_le _, Nat.zero_le _⟩) hP hD hS hA [0] [1, 2, 3, 4] [4, 0, 1, 2, 3] rfl rfl rfl (by decide) rfl rfl (fun H locs hP hD hS => ?_)
        have hM := (Option.some.inj (s_rt hM))
        subst hM
        exact rt_i hx hb hr hlocks hP hD hS dX9_copy_185
      · have hM := (s_if hM).2 c29
        refine lv_aload_n hx hb dX9_copy_151 rfl (lv_at hl 0 rfl) ?_
        refine va_get (ci := 8) (v := .ref q_t_sheet) (C := RX9) (T := TX9) (N := 31) hx hb hts iX9 hown hK.1 hP 0 rfl rfl 28 (Nat.le_of_ble_eq_true rfl) k2 (fun _ h9 => h9) rfl dX9_copy_152 ?_
        refine lv_bipush (v := 60) hx hb dX9_copy_155 (by decide) ?_
        refine lv_iload_n hx hb dX9_copy_157 rfl (lv_at hl 1 rfl) ?_
        refine lv_imul hx hb dX9_copy_158 ?_
        refine lv_iload hx hb dX9_copy_159 (lv_at hl 2 rfl) ?_
        refine lv_iadd hx hb dX9_copy_161 ?_
        refine lv_iload hx hb dX9_copy_162 (lv_at hl 4 rfl) ?_
        refine lv_iadd hx hb dX9_copy_164 ?_
        refine lv_aload_n hx hb dX9_copy_165 rfl (lv_at hl 0 rfl) ?_
        refine va_get (ci := 8) (v := .ref q_t_hands) (C := RX9) (T := TX9) (N := 31) hx hb hts iX9 hown hK.1 hP 0 rfl rfl 29 (Nat.le_of_ble_eq_true rfl) k3 (fun _ h9 => h9) rfl dX9_copy_166 ?_
        refine lv_iload hx hb dX9_copy_169 (lv_at hl 4 rfl) ?_
        obtain ⟨h32, hM⟩ := s_ck hM
        refine va_iald hx hb hK.1 hP 4 0 rfl rfl h32 dX9_copy_171 ?_
        refine lv_topi (fun y33 ey33 => ?_)
        have hM := s_lt hM y33 ey33
        obtain ⟨h34, hM⟩ := s_ck hM
        refine va_iast hx hb hK.1 hP hD hS 3 0 rfl rfl h34 dX9_copy_172 (fun H locs hP hD hS => ?_)
        have hP : va_P D vwCl (w_Mo_copy cI cJ cS q_t q_t_kindOf q_t_comes q_t_wants q_t_runs q_t_readKind q_t_readComes q_t_readWants q_t_queueNow q_t_servedAt q_t_comesWas q_t_readingOf q_t_readingAt q_t_sheetSize q_t_sheetLane q_t_sheet q_t_hands t_fault t_persons t_law t_bellSet t_readAt t_readLaw t_readMany t_queueMany t_servedNow t_doneAt t_readings t_whichMany t_whichOne t_whichTwo t_traceNow t_sheetSize t_sheetLane (upd t_sheet (((60 * p_o) + p_j) + x6).toNatClampNeg y33) t_hands) H := hP
        have hD : va_D A (w_Mo_copy cI cJ cS q_t q_t_kindOf q_t_comes q_t_wants q_t_runs q_t_readKind q_t_readComes q_t_readWants q_t_queueNow q_t_servedAt q_t_comesWas q_t_readingOf q_t_readingAt q_t_sheetSize q_t_sheetLane q_t_sheet q_t_hands t_fault t_persons t_law t_bellSet t_readAt t_readLaw t_readMany t_queueMany t_servedNow t_doneAt t_readings t_whichMany t_whichOne t_whichTwo t_traceNow t_sheetSize t_sheetLane (upd t_sheet (((60 * p_o) + p_j) + x6).toNatClampNeg y33) t_hands) := hD
        obtain ⟨y35, ey35⟩ : ∃ y : Int32, y = x6 + 1 := ⟨_, rfl⟩
        have hM := s_lt hM y35 ey35
        refine lv_iinc (v := y35) (lv' := [(6, .int y35), (0, .ref q_t), (3, .int p_o), (4, .int p_j), (5, .int p_n)]) hx hb dX9_copy_173 hl (k := 4) rfl (by rw [ey35]; rfl) (Nat.le_of_ble_eq_true rfl) rfl (fun ls hl => ?_)
        refine lv_goto (tgt := 144) hx hb dX9_copy_176 (by decide) ?_
        exact ih y35 t_fault (upd t_sheet (((60 * p_o) + p_j) + x6).toNatClampNeg y33) t_hands (s_jp hM) _ _ hP hD hS _ (lv_sub hl [1, 2, 3, 4, 0] rfl)
  have J144 : ∀ (x6 : Int32) (t_fault : Int32) (t_sheet : Nat → Int32) (t_hands : Nat → Int32), Mo_copy_l144 p_k p_i p_o p_j p_n t_sheetSize t_sheetLane x6 t_fault t_sheet t_hands = some o → ∀ (H : Heap) (locs : List Loc), va_P D vwCl (w_Mo_copy cI cJ cS q_t q_t_kindOf q_t_comes q_t_wants q_t_runs q_t_readKind q_t_readComes q_t_readWants q_t_queueNow q_t_servedAt q_t_comesWas q_t_readingOf q_t_readingAt q_t_sheetSize q_t_sheetLane q_t_sheet q_t_hands t_fault t_persons t_law t_bellSet t_readAt t_readLaw t_readMany t_queueMany t_servedNow t_doneAt t_readings t_whichMany t_whichOne t_whichTwo t_traceNow t_sheetSize t_sheetLane t_sheet t_hands) H → va_D A (w_Mo_copy cI cJ cS q_t q_t_kindOf q_t_comes q_t_wants q_t_runs q_t_readKind q_t_readComes q_t_readWants q_t_queueNow q_t_servedAt q_t_comesWas q_t_readingOf q_t_readingAt q_t_sheetSize q_t_sheetLane q_t_sheet q_t_hands t_fault t_persons t_law t_bellSet t_readAt t_readLaw t_readMany t_queueMany t_servedNow t_doneAt t_readings t_whichMany t_whichOne t_whichTwo t_traceNow t_sheetSize t_sheetLane t_sheet t_hands) → va_S A s.heap H locs → ∀ ls : Array Slot, lv_has ls 7 [(0, .ref q_t), (3, .int p_o), (4, .int p_j), (5, .int p_n), (6, .int x6)] → W p l e (headSpec wsX9_copy rm_Mo_copy).room s m args below meth c H locs 0 0 (MQ below (CQi D (w_Mo_copy cI cJ cS q_t q_t_kindOf q_t_comes q_t_wants q_t_runs q_t_readKind q_t_readComes q_t_readWants q_t_queueNow q_t_servedAt q_t_comesWas q_t_readingOf q_t_readingAt q_t_sheetSize q_t_sheetLane q_t_sheet q_t_hands o.2.1 t_persons t_law t_bellSet t_readAt t_readLaw t_readMany t_queueMany t_servedNow t_doneAt t_readings t_whichMany t_whichOne t_whichTwo t_traceNow t_sheetSize t_sheetLane o.2.2.1 o.2.2.2) A o.1) args s 0 0 A) (F0 m 144 ls []) := by
    intro x6 t_fault t_sheet t_hands hM
    unfold Mo_copy_l144 at hM
    obtain ⟨n0, hM⟩ := fin_some hM
    exact (L144 n0) x6 t_fault t_sheet t_hands hM
  have L107 : ∀ n : Nat, (∀ (x6 : Int32) (t_fault : Int32) (t_sheet : Nat → Int32) (t_hands : Nat → Int32), itr (Mo_copy_s107 p_k p_i p_o p_j p_n t_sheetSize t_sheetLane) n (x6, t_fault, t_sheet, t_hands) = some o → ∀ (H : Heap) (locs : List Loc), va_P D vwCl (w_Mo_copy cI cJ cS q_t q_t_kindOf q_t_comes q_t_wants q_t_runs q_t_readKind q_t_readComes q_t_readWants q_t_queueNow q_t_servedAt q_t_comesWas q_t_readingOf q_t_readingAt q_t_sheetSize q_t_sheetLane q_t_sheet q_t_hands t_fault t_persons t_law t_bellSet t_readAt t_readLaw t_readMany t_queueMany t_servedNow t_doneAt t_readings t_whichMany t_whichOne t_whichTwo t_traceNow t_sheetSize t_sheetLane t_sheet t_hands) H → va_D A (w_Mo_copy cI cJ cS q_t q_t_kindOf q_t_comes q_t_wants q_t_runs q_t_readKind q_t_readComes q_t_readWants q_t_queueNow q_t_servedAt q_t_comesWas q_t_readingOf q_t_readingAt q_t_sheetSize q_t_sheetLane q_t_sheet q_t_hands t_fault t_persons t_law t_bellSet t_readAt t_readLaw t_readMany t_queueMany t_servedNow t_doneAt t_readings t_whichMany t_whichOne t_whichTwo t_traceNow t_sheetSize t_sheetLane t_sheet t_hands) → va_S A s.heap H locs → ∀ ls : Array Slot, lv_has ls 7 [(0, .ref q_t), (1, .int p_k), (2, .int p_i), (3, .int p_o), (4, .int p_j), (5, .int p_n), (6, .int x6)] → W p l e (headSpec wsX9_copy rm_Mo_copy).room s m args below meth c H locs 0 0 (MQ below (CQi D (w_Mo_copy cI cJ cS q_t q_t_kindOf q_t_comes q_t_wants q_t_runs q_t_readKind q_t_readComes q_t_readWants q_t_queueNow q_t_servedAt q_t_comesWas q_t_readingOf q_t_readingAt q_t_sheetSize q_t_sheetLane q_t_sheet q_t_hands o.2.1 t_persons t_law t_bellSet t_readAt t_readLaw t_readMany t_queueMany t_servedNow t_doneAt t_readings t_whichMany t_whichOne t_whichTwo t_traceNow t_sheetSize t_sheetLane o.2.2.1 o.2.2.2) A o.1) args s 0 0 A) (F0 m 107 ls [])) := by
    intro n
    induction n with
    | zero => exact fun _ _ _ _ hM => (itr_0 hM).elim
    | succ n ih =>
      intro x6 t_fault t_sheet t_hands hM H locs hP hD hS ls hl
      have hM : (Mo_copy_b107 p_k p_i p_o p_j p_n t_sheetSize t_sheetLane x6 t_fault t_sheet t_hands).bind (sg (itr (Mo_copy_s107 p_k p_i p_o p_j p_n t_sheetSize t_sheetLane) n)) = some o := hM
      unfold Mo_copy_b107 at hM
      refine lv_iload hx hb dX9_copy_107 (lv_at hl 6 rfl) ?_
      refine lv_iload hx hb dX9_copy_109 (lv_at hl 5 rfl) ?_
      refine lv_icmp_ge (tgt := 141) hx hb dX9_copy_111 (by decide) (fun c28 => ?_) (fun c28 => ?_)
      · have hM := (s_if hM).1 c28
        refine lv_iconst (v := 0) hx hb dX9_copy_141 (by decide) ?_
        refine lv_istore (lv' := [(6, .int 0), (0, .ref q_t), (1, .int p_k), (2, .int p_i), (3, .int p_o), (4, .int p_j), (5, .int p_n)]) hx hb dX9_copy_142 hl (Nat.le_of_ble_eq_true rfl) rfl (fun ls hl => ?_)
        exact J144 0 t_fault t_sheet t_hands (s_ex hM) _ _ hP hD hS _ (lv_sub hl [1, 4, 5, 6, 0] rfl)
      · have hM := (s_if hM).2 c28
        refine lv_aload_n hx hb dX9_copy_114 rfl (lv_at hl 0 rfl) ?_
        refine va_get (ci := 8) (v := .ref q_t_hands) (C := RX9) (T := TX9) (N := 31) hx hb hts iX9 hown hK.1 hP 0 rfl rfl 29 (Nat.le_of_ble_eq_true rfl) k3 (fun _ h9 => h9) rfl dX9_copy_115 ?_
        refine lv_iload hx hb dX9_copy_118 (lv_at hl 6 rfl) ?_
        refine lv_aload_n hx hb dX9_copy_120 rfl (lv_at hl 0 rfl) ?_
        refine va_get (ci := 8) (v := .ref q_t_sheet) (C := RX9) (T := TX9) (N := 31) hx hb hts iX9 hown hK.1 hP 0 rfl rfl 28 (Nat.le_of_ble_eq_true rfl) k2 (fun _ h9 => h9) rfl dX9_copy_121 ?_
        refine lv_bipush (v := 60) hx hb dX9_copy_124 (by decide) ?_
        refine lv_iload_n hx hb dX9_copy_126 rfl (lv_at hl 1 rfl) ?_
        refine lv_imul hx hb dX9_copy_127 ?_
        refine lv_iload_n hx hb dX9_copy_128 rfl (lv_at hl 2 rfl) ?_
        refine lv_iadd hx hb dX9_copy_129 ?_
        refine lv_iload hx hb dX9_copy_130 (lv_at hl 6 rfl) ?_
        refine lv_iadd hx hb dX9_copy_132 ?_
        obtain ⟨h36, hM⟩ := s_ck hM
        refine va_iald hx hb hK.1 hP 3 0 rfl rfl h36 dX9_copy_133 ?_
        refine lv_topi (fun y37 ey37 => ?_)
        have hM := s_lt hM y37 ey37
        obtain ⟨h38, hM⟩ := s_ck hM
        refine va_iast hx hb hK.1 hP hD hS 4 0 rfl rfl h38 dX9_copy_134 (fun H locs hP hD hS => ?_)
        have hP : va_P D vwCl (w_Mo_copy cI cJ cS q_t q_t_kindOf q_t_comes q_t_wants q_t_runs q_t_readKind q_t_readComes q_t_readWants q_t_queueNow q_t_servedAt q_t_comesWas q_t_readingOf q_t_readingAt q_t_sheetSize q_t_sheetLane q_t_sheet q_t_hands t_fault t_persons t_law t_bellSet t_readAt t_readLaw t_readMany t_queueMany t_servedNow t_doneAt t_readings t_whichMany t_whichOne t_whichTwo t_traceNow t_sheetSize t_sheetLane t_sheet (upd t_hands x6.toNatClampNeg y37)) H := hP
        have hD : va_D A (w_Mo_copy cI cJ cS q_t q_t_kindOf q_t_comes q_t_wants q_t_runs q_t_readKind q_t_readComes q_t_readWants q_t_queueNow q_t_servedAt q_t_comesWas q_t_readingOf q_t_readingAt q_t_sheetSize q_t_sheetLane q_t_sheet q_t_hands t_fault t_persons t_law t_bellSet t_readAt t_readLaw t_readMany t_queueMany t_servedNow t_doneAt t_readings t_whichMany t_whichOne t_whichTwo t_traceNow t_sheetSize t_sheetLane t_sheet (upd t_hands x6.toNatClampNeg y37)) := hD
        obtain ⟨y39, ey39⟩ : ∃ y : Int32, y = x6 + 1 := ⟨_, rfl⟩
        have hM := s_lt hM y39 ey39
        refine lv_iinc (v := y39) (lv' := [(6, .int y39), (0, .ref q_t), (1, .int p_k), (2, .int p_i), (3, .int p_o), (4, .int p_j), (5, .int p_n)]) hx hb dX9_copy_135 hl (k := 6) rfl (by rw [ey39]; rfl) (Nat.le_of_ble_eq_true rfl) rfl (fun ls hl => ?_)
        refine lv_goto (tgt := 107) hx hb dX9_copy_138 (by decide) ?_
        exact ih y39 t_fault t_sheet (upd t_hands x6.toNatClampNeg y37) (s_jp hM) _ _ hP hD hS _ (lv_sub hl [1, 2, 3, 4, 5, 6, 0] rfl)
  have J107 : ∀ (x6 : Int32) (t_fault : Int32) (t_sheet : Nat → Int32) (t_hands : Nat → Int32), Mo_copy_l107 p_k p_i p_o p_j p_n t_sheetSize t_sheetLane x6 t_fault t_sheet t_hands = some o → ∀ (H : Heap) (locs : List Loc), va_P D vwCl (w_Mo_copy cI cJ cS q_t q_t_kindOf q_t_comes q_t_wants q_t_runs q_t_readKind q_t_readComes q_t_readWants q_t_queueNow q_t_servedAt q_t_comesWas q_t_readingOf q_t_readingAt q_t_sheetSize q_t_sheetLane q_t_sheet q_t_hands t_fault t_persons t_law t_bellSet t_readAt t_readLaw t_readMany t_queueMany t_servedNow t_doneAt t_readings t_whichMany t_whichOne t_whichTwo t_traceNow t_sheetSize t_sheetLane t_sheet t_hands) H → va_D A (w_Mo_copy cI cJ cS q_t q_t_kindOf q_t_comes q_t_wants q_t_runs q_t_readKind q_t_readComes q_t_readWants q_t_queueNow q_t_servedAt q_t_comesWas q_t_readingOf q_t_readingAt q_t_sheetSize q_t_sheetLane q_t_sheet q_t_hands t_fault t_persons t_law t_bellSet t_readAt t_readLaw t_readMany t_queueMany t_servedNow t_doneAt t_readings t_whichMany t_whichOne t_whichTwo t_traceNow t_sheetSize t_sheetLane t_sheet t_hands) → va_S A s.heap H locs → ∀ ls : Array Slot, lv_has ls 7 [(0, .ref q_t), (1, .int p_k), (2, .int p_i), (3, .int p_o), (4, .int p_j), (5, .int p_n), (6, .int x6)] → W p l e (headSpec wsX9_copy rm_Mo_copy).room s m args below meth c H locs 0 0 (MQ below (CQi D (w_Mo_copy cI cJ cS q_t q_t_kindOf q_t_comes q_t_wants q_t_runs q_t_readKind q_t_readComes q_t_readWants q_t_queueNow q_t_servedAt q_t_comesWas q_t_readingOf q_t_readingAt q_t_sheetSize q_t_sheetLane q_t_sheet q_t_hands o.2.1 t_persons t_law t_bellSet t_readAt t_readLaw t_readMany t_queueMany t_servedNow t_doneAt t_readings t_whichMany t_whichOne t_whichTwo t_traceNow t_sheetSize t_sheetLane o.2.2.1 o.2.2.2) A o.1) args s 0 0 A) (F0 m 107 ls []) := by
    intro x6 t_fault t_sheet t_hands hM
    unfold Mo_copy_l107 at hM
    obtain ⟨n0, hM⟩ := fin_some hM
    exact (L107 n0) x6 t_fault t_sheet t_hands hM
  unfold Mo_copy at hM
  refine lv_iload_n hx hb dX9_copy_0 rfl (lv_at hl 1 rfl) ?_
  obtain ⟨y1, h2, hM⟩ := o_bd hM
  refine af_i (ws2 := (w_Mo_copy cI cJ cS q_t q_t_kindOf q_t_comes q_t_wants q_t_runs q_t_readKind q_t_readComes q_t_readWants q_t_queueNow q_t_servedAt q_t_comesWas q_t_readingOf q_t_readingAt q_t_sheetSize q_t_sheetLane q_t_sheet q_t_hands t_fault t_persons t_law t_bellSet t_readAt t_readLaw t_readMany t_queueMany t_servedNow t_doneAt t_readings t_whichMany t_whichOne t_whichTwo t_traceNow t_sheetSize t_sheetLane t_sheet t_hands)) (va_runS (As := [.int p_k]) (rest := []) ⟨hx, hb, hml, hown, hts⟩ (c_Mo_noSheet l D cI cJ cS p_k y1 h2 _) (va_cwS 1 hts gX9_copy_X9_noSheet rfl rfl rfl (by decide +kernel) ⟨(Nat.le_of_ble_eq_true rfl), (Nat.le_of_ble_eq_true rfl)⟩) (pre_S hK hP hD [] rfl rfl) rfl rfl hl.1 rfl (lv_room (Nat.le_of_ble_eq_true rfl)) dX9_copy_1 ⟨Nat.zero_le _, Nat.zero_le _⟩) hP hD hS hA [] [0, 1, 2, 3, 4] [0, 1, 2, 3, 4] rfl rfl rfl (by decide) rfl rfl (fun H locs hP hD hS => ?_)
  refine lv_if_ne (tgt := 14) hx hb dX9_copy_4 (by decide) (fun c3 => ?_) (fun c3 => ?_)
  · have hM := (o_if hM).2 c3
    refine lv_aload_n hx hb dX9_copy_14 rfl (lv_at hl 0 rfl) ?_
    refine lv_iconst (v := (-1)) hx hb dX9_copy_15 (by decide) ?_
    obtain ⟨y4, h5, hM⟩ := o_bd hM
    refine af_i (ws2 := (w_Mo_copy cI cJ cS q_t q_t_kindOf q_t_comes q_t_wants q_t_runs q_t_readKind q_t_readComes q_t_readWants q_t_queueNow q_t_servedAt q_t_comesWas q_t_readingOf q_t_readingAt q_t_sheetSize q_t_sheetLane q_t_sheet q_t_hands y4.2 t_persons t_law t_bellSet t_readAt t_readLaw t_readMany t_queueMany t_servedNow t_doneAt t_readings t_whichMany t_whichOne t_whichTwo t_traceNow t_sheetSize t_sheetLane t_sheet t_hands)) (va_runV (As := [.int (-1)]) (rest := []) ⟨hx, hb, hml, hown, hts⟩ (c_Mo_refused l D cI cJ cS q_t q_t_kindOf q_t_comes q_t_wants q_t_runs q_t_readKind q_t_readComes q_t_readWants q_t_queueNow q_t_servedAt q_t_comesWas q_t_readingOf q_t_readingAt q_t_sheetSize q_t_sheetLane q_t_sheet q_t_hands t_fault t_persons t_law t_bellSet t_readAt t_readLaw t_readMany t_queueMany t_servedNow t_doneAt t_readings t_whichMany t_whichOne t_whichTwo t_traceNow (-1) y4 h5 _) (cwV 1 hts gX9_copy_X9_refused rfl rfl rfl (by decide +kernel) ⟨(Nat.le_of_ble_eq_true rfl), (Nat.le_of_ble_eq_true rfl)⟩) (pre_V hK hP hD [0] rfl rfl rfl rfl) rfl rfl hl.1 rfl (lv_room (Nat.le_of_ble_eq_true rfl)) dX9_copy_16 ⟨Nat.zero_le _, Nat.zero_le _⟩) hP hD hS hA [0] [1, 2, 3, 4] [4, 0, 1, 2, 3] rfl rfl rfl (by decide) rfl rfl (fun H locs hP hD hS => ?_)
    have hM := (Option.some.inj hM)
    subst hM
    exact rt_i hx hb hr hlocks hP hD hS dX9_copy_19
  · have hM := (o_if hM).1 c3
    refine lv_iload_n hx hb dX9_copy_7 rfl (lv_at hl 3 rfl) ?_
    obtain ⟨y6, h7, hM⟩ := o_bd hM
    refine af_i (ws2 := (w_Mo_copy cI cJ cS q_t q_t_kindOf q_t_comes q_t_wants q_t_runs q_t_readKind q_t_readComes q_t_readWants q_t_queueNow q_t_servedAt q_t_comesWas q_t_readingOf q_t_readingAt q_t_sheetSize q_t_sheetLane q_t_sheet q_t_hands t_fault t_persons t_law t_bellSet t_readAt t_readLaw t_readMany t_queueMany t_servedNow t_doneAt t_readings t_whichMany t_whichOne t_whichTwo t_traceNow t_sheetSize t_sheetLane t_sheet t_hands)) (va_runS (As := [.int p_o]) (rest := []) ⟨hx, hb, hml, hown, hts⟩ (c_Mo_noSheet l D cI cJ cS p_o y6 h7 _) (va_cwS 1 hts gX9_copy_X9_noSheet rfl rfl rfl (by decide +kernel) ⟨(Nat.le_of_ble_eq_true rfl), (Nat.le_of_ble_eq_true rfl)⟩) (pre_S hK hP hD [] rfl rfl) rfl rfl hl.1 rfl (lv_room (Nat.le_of_ble_eq_true rfl)) dX9_copy_8 ⟨Nat.zero_le _, Nat.zero_le _⟩) hP hD hS hA [] [0, 1, 2, 3, 4] [0, 1, 2, 3, 4] rfl rfl rfl (by decide) rfl rfl (fun H locs hP hD hS => ?_)
    refine lv_if_eq (tgt := 20) hx hb dX9_copy_11 (by decide) (fun c8 => ?_) (fun c8 => ?_)
    · have hM := (o_if hM).1 c8
      refine lv_aload_n hx hb dX9_copy_20 rfl (lv_at hl 0 rfl) ?_
      refine va_get (ci := 8) (v := .ref q_t_sheetSize) (C := RX9) (T := TX9) (N := 31) hx hb hts iX9 hown hK.1 hP 0 rfl rfl 26 (Nat.le_of_ble_eq_true rfl) k0 (fun _ h9 => h9) rfl dX9_copy_21 ?_
      refine lv_iload_n hx hb dX9_copy_24 rfl (lv_at hl 1 rfl) ?_
      obtain ⟨h9, hM⟩ := o_ck hM
      refine va_iald hx hb hK.1 hP 1 0 rfl rfl h9 dX9_copy_25 ?_
      refine lv_if_lt (tgt := 38) hx hb dX9_copy_26 (by decide) (fun c10 => ?_) (fun c10 => ?_)
      · have hM := (o_if hM).1 c10
        refine lv_aload_n hx hb dX9_copy_38 rfl (lv_at hl 0 rfl) ?_
        refine lv_iconst (v := 1) hx hb dX9_copy_39 (by decide) ?_
        obtain ⟨y11, h12, hM⟩ := o_bd hM
        refine af_i (ws2 := (w_Mo_copy cI cJ cS q_t q_t_kindOf q_t_comes q_t_wants q_t_runs q_t_readKind q_t_readComes q_t_readWants q_t_queueNow q_t_servedAt q_t_comesWas q_t_readingOf q_t_readingAt q_t_sheetSize q_t_sheetLane q_t_sheet q_t_hands y11.2 t_persons t_law t_bellSet t_readAt t_readLaw t_readMany t_queueMany t_servedNow t_doneAt t_readings t_whichMany t_whichOne t_whichTwo t_traceNow t_sheetSize t_sheetLane t_sheet t_hands)) (va_runV (As := [.int 1]) (rest := []) ⟨hx, hb, hml, hown, hts⟩ (c_Mo_failed l D cI cJ cS q_t q_t_kindOf q_t_comes q_t_wants q_t_runs q_t_readKind q_t_readComes q_t_readWants q_t_queueNow q_t_servedAt q_t_comesWas q_t_readingOf q_t_readingAt q_t_sheetSize q_t_sheetLane q_t_sheet q_t_hands t_fault t_persons t_law t_bellSet t_readAt t_readLaw t_readMany t_queueMany t_servedNow t_doneAt t_readings t_whichMany t_whichOne t_whichTwo t_traceNow 1 y11 h12 _) (cwV 1 hts gX9_copy_X9_failed rfl rfl rfl (by decide +kernel) ⟨(Nat.le_of_ble_eq_true rfl), (Nat.le_of_ble_eq_true rfl)⟩) (pre_V hK hP hD [0] rfl rfl rfl rfl) rfl rfl hl.1 rfl (lv_room (Nat.le_of_ble_eq_true rfl)) dX9_copy_40 ⟨Nat.zero_le _, Nat.zero_le _⟩) hP hD hS hA [0] [1, 2, 3, 4] [4, 0, 1, 2, 3] rfl rfl rfl (by decide) rfl rfl (fun H locs hP hD hS => ?_)
        have hM := (Option.some.inj hM)
        subst hM
        exact rt_i hx hb hr hlocks hP hD hS dX9_copy_43
      · have hM := (o_if hM).2 c10
        refine lv_aload_n hx hb dX9_copy_29 rfl (lv_at hl 0 rfl) ?_
        refine va_get (ci := 8) (v := .ref q_t_sheetSize) (C := RX9) (T := TX9) (N := 31) hx hb hts iX9 hown hK.1 hP 0 rfl rfl 26 (Nat.le_of_ble_eq_true rfl) k0 (fun _ h9 => h9) rfl dX9_copy_30 ?_
        refine lv_iload_n hx hb dX9_copy_33 rfl (lv_at hl 3 rfl) ?_
        obtain ⟨h13, hM⟩ := o_ck hM
        refine va_iald hx hb hK.1 hP 1 0 rfl rfl h13 dX9_copy_34 ?_
        refine lv_if_ge (tgt := 44) hx hb dX9_copy_35 (by decide) (fun c14 => ?_) (fun c14 => ?_)
        · have hM := (o_if hM).1 c14
          refine lv_aload_n hx hb dX9_copy_44 rfl (lv_at hl 0 rfl) ?_
          refine va_get (ci := 8) (v := .ref q_t_sheetLane) (C := RX9) (T := TX9) (N := 31) hx hb hts iX9 hown hK.1 hP 0 rfl rfl 27 (Nat.le_of_ble_eq_true rfl) k1 (fun _ h9 => h9) rfl dX9_copy_45 ?_
          refine lv_iload_n hx hb dX9_copy_48 rfl (lv_at hl 1 rfl) ?_
          obtain ⟨h15, hM⟩ := o_ck hM
          refine va_iald hx hb hK.1 hP 2 0 rfl rfl h15 dX9_copy_49 ?_
          refine lv_aload_n hx hb dX9_copy_50 rfl (lv_at hl 0 rfl) ?_
          refine va_get (ci := 8) (v := .ref q_t_sheetLane) (C := RX9) (T := TX9) (N := 31) hx hb hts iX9 hown hK.1 hP 0 rfl rfl 27 (Nat.le_of_ble_eq_true rfl) k1 (fun _ h9 => h9) rfl dX9_copy_51 ?_
          refine lv_iload_n hx hb dX9_copy_54 rfl (lv_at hl 3 rfl) ?_
          obtain ⟨h16, hM⟩ := o_ck hM
          refine va_iald hx hb hK.1 hP 2 0 rfl rfl h16 dX9_copy_55 ?_
          refine lv_icmp_eq (tgt := 65) hx hb dX9_copy_56 (by decide) (fun c17 => ?_) (fun c17 => ?_)
          · have hM := (o_if hM).1 c17
            refine lv_iload_n hx hb dX9_copy_65 rfl (lv_at hl 2 rfl) ?_
            refine lv_iload hx hb dX9_copy_66 (lv_at hl 5 rfl) ?_
            refine lv_i2l (v := p_n.toInt64) hx hb dX9_copy_68 rfl ?_
            refine lv_aload_n hx hb dX9_copy_69 rfl (lv_at hl 0 rfl) ?_
            refine va_get (ci := 8) (v := .ref q_t_sheetSize) (C := RX9) (T := TX9) (N := 31) hx hb hts iX9 hown hK.1 hP 0 rfl rfl 26 (Nat.le_of_ble_eq_true rfl) k0 (fun _ h9 => h9) rfl dX9_copy_70 ?_
            refine lv_iload_n hx hb dX9_copy_73 rfl (lv_at hl 1 rfl) ?_
            obtain ⟨h18, hM⟩ := o_ck hM
            refine va_iald hx hb hK.1 hP 1 0 rfl rfl h18 dX9_copy_74 ?_
            obtain ⟨y19, h20, hM⟩ := o_bd hM
            refine af_i (ws2 := (w_Mo_copy cI cJ cS q_t q_t_kindOf q_t_comes q_t_wants q_t_runs q_t_readKind q_t_readComes q_t_readWants q_t_queueNow q_t_servedAt q_t_comesWas q_t_readingOf q_t_readingAt q_t_sheetSize q_t_sheetLane q_t_sheet q_t_hands t_fault t_persons t_law t_bellSet t_readAt t_readLaw t_readMany t_queueMany t_servedNow t_doneAt t_readings t_whichMany t_whichOne t_whichTwo t_traceNow t_sheetSize t_sheetLane t_sheet t_hands)) (va_runS (As := [.int p_i, .long p_n.toInt64, .int (t_sheetSize p_k.toNatClampNeg)]) (rest := []) ⟨hx, hb, hml, hown, hts⟩ (c_Mo_isBeyond l D cI cJ cS p_i p_n.toInt64 (t_sheetSize p_k.toNatClampNeg) y19 h20 _) (va_cwS 3 hts gX9_copy_X9_isBeyond rfl rfl rfl (by decide +kernel) ⟨(Nat.le_of_ble_eq_true rfl), (Nat.le_of_ble_eq_true rfl)⟩) (pre_S hK hP hD [] rfl rfl) rfl rfl hl.1 rfl (lv_room (Nat.le_of_ble_eq_true rfl)) dX9_copy_75 ⟨Nat.zero_le _, Nat.zero_le _⟩) hP hD hS hA [] [0, 1, 2, 3, 4] [0, 1, 2, 3, 4] rfl rfl rfl (by decide) rfl rfl (fun H locs hP hD hS => ?_)
            refine lv_if_ne (tgt := 98) hx hb dX9_copy_78 (by decide) (fun c21 => ?_) (fun c21 => ?_)
            · have hM := (o_if hM).2 c21
              refine lv_aload_n hx hb dX9_copy_98 rfl (lv_at hl 0 rfl) ?_
              refine lv_iconst (v := 3) hx hb dX9_copy_99 (by decide) ?_
              obtain ⟨y22, h23, hM⟩ := o_bd hM
              refine af_i (ws2 := (w_Mo_copy cI cJ cS q_t q_t_kindOf q_t_comes q_t_wants q_t_runs q_t_readKind q_t_readComes q_t_readWants q_t_queueNow q_t_servedAt q_t_comesWas q_t_readingOf q_t_readingAt q_t_sheetSize q_t_sheetLane q_t_sheet q_t_hands y22.2 t_persons t_law t_bellSet t_readAt t_readLaw t_readMany t_queueMany t_servedNow t_doneAt t_readings t_whichMany t_whichOne t_whichTwo t_traceNow t_sheetSize t_sheetLane t_sheet t_hands)) (va_runV (As := [.int 3]) (rest := []) ⟨hx, hb, hml, hown, hts⟩ (c_Mo_failed l D cI cJ cS q_t q_t_kindOf q_t_comes q_t_wants q_t_runs q_t_readKind q_t_readComes q_t_readWants q_t_queueNow q_t_servedAt q_t_comesWas q_t_readingOf q_t_readingAt q_t_sheetSize q_t_sheetLane q_t_sheet q_t_hands t_fault t_persons t_law t_bellSet t_readAt t_readLaw t_readMany t_queueMany t_servedNow t_doneAt t_readings t_whichMany t_whichOne t_whichTwo t_traceNow 3 y22 h23 _) (cwV 1 hts gX9_copy_X9_failed rfl rfl rfl (by decide +kernel) ⟨(Nat.le_of_ble_eq_true rfl), (Nat.le_of_ble_eq_true rfl)⟩) (pre_V hK hP hD [0] rfl rfl rfl rfl) rfl rfl hl.1 rfl (lv_room (Nat.le_of_ble_eq_true rfl)) dX9_copy_100 ⟨Nat.zero_le _, Nat.zero_le _⟩) hP hD hS hA [0] [1, 2, 3, 4] [4, 0, 1, 2, 3] rfl rfl rfl (by decide) rfl rfl (fun H locs hP hD hS => ?_)
              have hM := (Option.some.inj hM)
              subst hM
              exact rt_i hx hb hr hlocks hP hD hS dX9_copy_103
            · have hM := (o_if hM).1 c21
              refine lv_iload hx hb dX9_copy_81 (lv_at hl 4 rfl) ?_
              refine lv_iload hx hb dX9_copy_83 (lv_at hl 5 rfl) ?_
              refine lv_i2l (v := p_n.toInt64) hx hb dX9_copy_85 rfl ?_
              refine lv_aload_n hx hb dX9_copy_86 rfl (lv_at hl 0 rfl) ?_
              refine va_get (ci := 8) (v := .ref q_t_sheetSize) (C := RX9) (T := TX9) (N := 31) hx hb hts iX9 hown hK.1 hP 0 rfl rfl 26 (Nat.le_of_ble_eq_true rfl) k0 (fun _ h9 => h9) rfl dX9_copy_87 ?_
              refine lv_iload_n hx hb dX9_copy_90 rfl (lv_at hl 3 rfl) ?_
              obtain ⟨h24, hM⟩ := o_ck hM
              refine va_iald hx hb hK.1 hP 1 0 rfl rfl h24 dX9_copy_91 ?_
              obtain ⟨y25, h26, hM⟩ := o_bd hM
              refine af_i (ws2 := (w_Mo_copy cI cJ cS q_t q_t_kindOf q_t_comes q_t_wants q_t_runs q_t_readKind q_t_readComes q_t_readWants q_t_queueNow q_t_servedAt q_t_comesWas q_t_readingOf q_t_readingAt q_t_sheetSize q_t_sheetLane q_t_sheet q_t_hands t_fault t_persons t_law t_bellSet t_readAt t_readLaw t_readMany t_queueMany t_servedNow t_doneAt t_readings t_whichMany t_whichOne t_whichTwo t_traceNow t_sheetSize t_sheetLane t_sheet t_hands)) (va_runS (As := [.int p_j, .long p_n.toInt64, .int (t_sheetSize p_o.toNatClampNeg)]) (rest := []) ⟨hx, hb, hml, hown, hts⟩ (c_Mo_isBeyond l D cI cJ cS p_j p_n.toInt64 (t_sheetSize p_o.toNatClampNeg) y25 h26 _) (va_cwS 3 hts gX9_copy_X9_isBeyond rfl rfl rfl (by decide +kernel) ⟨(Nat.le_of_ble_eq_true rfl), (Nat.le_of_ble_eq_true rfl)⟩) (pre_S hK hP hD [] rfl rfl) rfl rfl hl.1 rfl (lv_room (Nat.le_of_ble_eq_true rfl)) dX9_copy_92 ⟨Nat.zero_le _, Nat.zero_le _⟩) hP hD hS hA [] [0, 1, 2, 3, 4] [0, 1, 2, 3, 4] rfl rfl rfl (by decide) rfl rfl (fun H locs hP hD hS => ?_)
              refine lv_if_eq (tgt := 104) hx hb dX9_copy_95 (by decide) (fun c27 => ?_) (fun c27 => ?_)
              · have hM := (o_if hM).1 c27
                refine lv_iconst (v := 0) hx hb dX9_copy_104 (by decide) ?_
                refine lv_istore (lv' := [(6, .int 0), (0, .ref q_t), (1, .int p_k), (2, .int p_i), (3, .int p_o), (4, .int p_j), (5, .int p_n)]) hx hb dX9_copy_105 hl (Nat.le_of_ble_eq_true rfl) rfl (fun ls hl => ?_)
                exact J107 0 t_fault t_sheet t_hands hM _ _ hP hD hS _ (lv_sub hl [1, 2, 3, 4, 5, 6, 0] rfl)
              · have hM := (o_if hM).2 c27
                refine lv_aload_n hx hb dX9_copy_98 rfl (lv_at hl 0 rfl) ?_
                refine lv_iconst (v := 3) hx hb dX9_copy_99 (by decide) ?_
                obtain ⟨y40, h41, hM⟩ := o_bd hM
                refine af_i (ws2 := (w_Mo_copy cI cJ cS q_t q_t_kindOf q_t_comes q_t_wants q_t_runs q_t_readKind q_t_readComes q_t_readWants q_t_queueNow q_t_servedAt q_t_comesWas q_t_readingOf q_t_readingAt q_t_sheetSize q_t_sheetLane q_t_sheet q_t_hands y40.2 t_persons t_law t_bellSet t_readAt t_readLaw t_readMany t_queueMany t_servedNow t_doneAt t_readings t_whichMany t_whichOne t_whichTwo t_traceNow t_sheetSize t_sheetLane t_sheet t_hands)) (va_runV (As := [.int 3]) (rest := []) ⟨hx, hb, hml, hown, hts⟩ (c_Mo_failed l D cI cJ cS q_t q_t_kindOf q_t_comes q_t_wants q_t_runs q_t_readKind q_t_readComes q_t_readWants q_t_queueNow q_t_servedAt q_t_comesWas q_t_readingOf q_t_readingAt q_t_sheetSize q_t_sheetLane q_t_sheet q_t_hands t_fault t_persons t_law t_bellSet t_readAt t_readLaw t_readMany t_queueMany t_servedNow t_doneAt t_readings t_whichMany t_whichOne t_whichTwo t_traceNow 3 y40 h41 _) (cwV 1 hts gX9_copy_X9_failed rfl rfl rfl (by decide +kernel) ⟨(Nat.le_of_ble_eq_true rfl), (Nat.le_of_ble_eq_true rfl)⟩) (pre_V hK hP hD [0] rfl rfl rfl rfl) rfl rfl hl.1 rfl (lv_room (Nat.le_of_ble_eq_true rfl)) dX9_copy_100 ⟨Nat.zero_le _, Nat.zero_le _⟩) hP hD hS hA [0] [1, 2, 3, 4] [4, 0, 1, 2, 3] rfl rfl rfl (by decide) rfl rfl (fun H locs hP hD hS => ?_)
                have hM := (Option.some.inj hM)
                subst hM
                exact rt_i hx hb hr hlocks hP hD hS dX9_copy_103
          · have hM := (o_if hM).2 c17
            refine lv_aload_n hx hb dX9_copy_59 rfl (lv_at hl 0 rfl) ?_
            refine lv_iconst (v := 2) hx hb dX9_copy_60 (by decide) ?_
            obtain ⟨y42, h43, hM⟩ := o_bd hM
            refine af_i (ws2 := (w_Mo_copy cI cJ cS q_t q_t_kindOf q_t_comes q_t_wants q_t_runs q_t_readKind q_t_readComes q_t_readWants q_t_queueNow q_t_servedAt q_t_comesWas q_t_readingOf q_t_readingAt q_t_sheetSize q_t_sheetLane q_t_sheet q_t_hands y42.2 t_persons t_law t_bellSet t_readAt t_readLaw t_readMany t_queueMany t_servedNow t_doneAt t_readings t_whichMany t_whichOne t_whichTwo t_traceNow t_sheetSize t_sheetLane t_sheet t_hands)) (va_runV (As := [.int 2]) (rest := []) ⟨hx, hb, hml, hown, hts⟩ (c_Mo_failed l D cI cJ cS q_t q_t_kindOf q_t_comes q_t_wants q_t_runs q_t_readKind q_t_readComes q_t_readWants q_t_queueNow q_t_servedAt q_t_comesWas q_t_readingOf q_t_readingAt q_t_sheetSize q_t_sheetLane q_t_sheet q_t_hands t_fault t_persons t_law t_bellSet t_readAt t_readLaw t_readMany t_queueMany t_servedNow t_doneAt t_readings t_whichMany t_whichOne t_whichTwo t_traceNow 2 y42 h43 _) (cwV 1 hts gX9_copy_X9_failed rfl rfl rfl (by decide +kernel) ⟨(Nat.le_of_ble_eq_true rfl), (Nat.le_of_ble_eq_true rfl)⟩) (pre_V hK hP hD [0] rfl rfl rfl rfl) rfl rfl hl.1 rfl (lv_room (Nat.le_of_ble_eq_true rfl)) dX9_copy_61 ⟨Nat.zero_le _, Nat.zero_le _⟩) hP hD hS hA [0] [1, 2, 3, 4] [4, 0, 1, 2, 3] rfl rfl rfl (by decide) rfl rfl (fun H locs hP hD hS => ?_)
            have hM := (Option.some.inj hM)
            subst hM
            exact rt_i hx hb hr hlocks hP hD hS dX9_copy_64
        · have hM := (o_if hM).2 c14
          refine lv_aload_n hx hb dX9_copy_38 rfl (lv_at hl 0 rfl) ?_
          refine lv_iconst (v := 1) hx hb dX9_copy_39 (by decide) ?_
          obtain ⟨y44, h45, hM⟩ := o_bd hM
          refine af_i (ws2 := (w_Mo_copy cI cJ cS q_t q_t_kindOf q_t_comes q_t_wants q_t_runs q_t_readKind q_t_readComes q_t_readWants q_t_queueNow q_t_servedAt q_t_comesWas q_t_readingOf q_t_readingAt q_t_sheetSize q_t_sheetLane q_t_sheet q_t_hands y44.2 t_persons t_law t_bellSet t_readAt t_readLaw t_readMany t_queueMany t_servedNow t_doneAt t_readings t_whichMany t_whichOne t_whichTwo t_traceNow t_sheetSize t_sheetLane t_sheet t_hands)) (va_runV (As := [.int 1]) (rest := []) ⟨hx, hb, hml, hown, hts⟩ (c_Mo_failed l D cI cJ cS q_t q_t_kindOf q_t_comes q_t_wants q_t_runs q_t_readKind q_t_readComes q_t_readWants q_t_queueNow q_t_servedAt q_t_comesWas q_t_readingOf q_t_readingAt q_t_sheetSize q_t_sheetLane q_t_sheet q_t_hands t_fault t_persons t_law t_bellSet t_readAt t_readLaw t_readMany t_queueMany t_servedNow t_doneAt t_readings t_whichMany t_whichOne t_whichTwo t_traceNow 1 y44 h45 _) (cwV 1 hts gX9_copy_X9_failed rfl rfl rfl (by decide +kernel) ⟨(Nat.le_of_ble_eq_true rfl), (Nat.le_of_ble_eq_true rfl)⟩) (pre_V hK hP hD [0] rfl rfl rfl rfl) rfl rfl hl.1 rfl (lv_room (Nat.le_of_ble_eq_true rfl)) dX9_copy_40 ⟨Nat.zero_le _, Nat.zero_le _⟩) hP hD hS hA [0] [1, 2, 3, 4] [4, 0, 1, 2, 3] rfl rfl rfl (by decide) rfl rfl (fun H locs hP hD hS => ?_)
          have hM := (Option.some.inj hM)
          subst hM
          exact rt_i hx hb hr hlocks hP hD hS dX9_copy_43
    · have hM := (o_if hM).2 c8
      refine lv_aload_n hx hb dX9_copy_14 rfl (lv_at hl 0 rfl) ?_
      refine lv_iconst (v := (-1)) hx hb dX9_copy_15 (by decide) ?_
      obtain ⟨y46, h47, hM⟩ := o_bd hM
      refine af_i (ws2 := (w_Mo_copy cI cJ cS q_t q_t_kindOf q_t_comes q_t_wants q_t_runs q_t_readKind q_t_readComes q_t_readWants q_t_queueNow q_t_servedAt q_t_comesWas q_t_readingOf q_t_readingAt q_t_sheetSize q_t_sheetLane q_t_sheet q_t_hands y46.2 t_persons t_law t_bellSet t_readAt t_readLaw t_readMany t_queueMany t_servedNow t_doneAt t_readings t_whichMany t_whichOne t_whichTwo t_traceNow t_sheetSize t_sheetLane t_sheet t_hands)) (va_runV (As := [.int (-1)]) (rest := []) ⟨hx, hb, hml, hown, hts⟩ (c_Mo_refused l D cI cJ cS q_t q_t_kindOf q_t_comes q_t_wants q_t_runs q_t_readKind q_t_readComes q_t_readWants q_t_queueNow q_t_servedAt q_t_comesWas q_t_readingOf q_t_readingAt q_t_sheetSize q_t_sheetLane q_t_sheet q_t_hands t_fault t_persons t_law t_bellSet t_readAt t_readLaw t_readMany t_queueMany t_servedNow t_doneAt t_readings t_whichMany t_whichOne t_whichTwo t_traceNow (-1) y46 h47 _) (cwV 1 hts gX9_copy_X9_refused rfl rfl rfl (by decide +kernel) ⟨(Nat.le_of_ble_eq_true rfl), (Nat.le_of_ble_eq_true rfl)⟩) (pre_V hK hP hD [0] rfl rfl rfl rfl) rfl rfl hl.1 rfl (lv_room (Nat.le_of_ble_eq_true rfl)) dX9_copy_16 ⟨Nat.zero_le _, Nat.zero_le _⟩) hP hD hS hA [0] [1, 2, 3, 4] [4, 0, 1, 2, 3] rfl rfl rfl (by decide) rfl rfl (fun H locs hP hD hS => ?_)
      have hM := (Option.some.inj hM)
      subst hM
      exact rt_i hx hb hr hlocks hP hD hS dX9_copy_19

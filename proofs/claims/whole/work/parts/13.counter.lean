/-! ===== TurnQueue$Counter.movesOf ===== -/
abbrev w_Co_movesOf (cI cJ cS : ClassId) (q_plan : Nat) (q_plan_kinds : Nat) (q_plan_comes : Nat) (q_plan_wants : Nat) (q_plan_outs : Nat) (plan_law : Int32) (plan_count : Int32) (plan_bells : Int64) (plan_comes : Nat → Int32) (plan_outs : Nat → Int32) : va_W := [(q_plan, .inr (3, [.int plan_law, .int plan_count, .long plan_bells, .ref q_plan_kinds, .ref q_plan_comes, .ref q_plan_wants, .ref q_plan_outs])), (q_plan_comes, ar cI 7 plan_comes), (q_plan_outs, ar cI 7 plan_outs)]
abbrev rm_Co_movesOf : Room := { frames := 0, cells := 0, slots := 0, locals := 0 }
noncomputable def Co_movesOf_b4 (plan_count : Int32) (plan_comes : Nat → Int32) (plan_outs : Nat → Int32) (x1 : Int64) (x3 : Int32) : Option ((Int64 × Int32) ⊕ (Int64)) :=
  if plan_count ≤ x3 then
    some (.inr x1)
  else
    if ck x3 7 = true then
      lt (x1 ||| ((1 : Int64) <<< ((plan_comes x3.toNatClampNeg).toInt64 &&& 63))) fun y3 =>
      if ck x3 7 = true then
        if (plan_outs x3.toNatClampNeg) = (-9) then
          lt (x3 + 1) fun y6 =>
          some (.inl (y3, y6))
        else
          if ck x3 7 = true then
            lt (y3 ||| ((1 : Int64) <<< ((plan_outs x3.toNatClampNeg).toInt64 &&& 63))) fun y8 =>
            lt (x3 + 1) fun y9 =>
            some (.inl (y8, y9))
          else none
      else none
    else none
noncomputable def Co_movesOf_s4 (plan_count : Int32) (plan_comes : Nat → Int32) (plan_outs : Nat → Int32) : (Int64 × Int32) → Option ((Int64 × Int32) ⊕ (Int64)) := fun x => Co_movesOf_b4 plan_count plan_comes plan_outs x.1 x.2
noncomputable def Co_movesOf_l4 (plan_count : Int32) (plan_comes : Nat → Int32) (plan_outs : Nat → Int32) (x1 : Int64) (x3 : Int32) : Option (Int64) := fin (Co_movesOf_s4 plan_count plan_comes plan_outs) (x1, x3)
noncomputable def Co_movesOf (plan_count : Int32) (plan_comes : Nat → Int32) (plan_outs : Nat → Int32) : Option (Int64) :=
  Co_movesOf_l4 plan_count plan_comes plan_outs 0 0
theorem Co_movesOf_l4_eq (plan_count : Int32) (plan_comes : Nat → Int32) (plan_outs : Nat → Int32) (x1 : Int64) (x3 : Int32) : Co_movesOf_l4 plan_count plan_comes plan_outs x1 x3 = (Co_movesOf_b4 plan_count plan_comes plan_outs x1 x3).bind (sg (fin (Co_movesOf_s4 plan_count plan_comes plan_outs))) := by
  unfold Co_movesOf_l4
  exact fin_eq _ _
theorem Co_movesOf_l4_fd (plan_count : Int32) (plan_comes : Nat → Int32) (plan_outs : Nat → Int32) (x1 : Int64) (x3 : Int32) : fin (Co_movesOf_s4 plan_count plan_comes plan_outs) (x1, x3) = Co_movesOf_l4 plan_count plan_comes plan_outs x1 x3 := rfl
set_option maxRecDepth 100000 in
set_option maxHeartbeats 4000000 in
theorem c_Co_movesOf (l : Launch) (D : va_G) (cI cJ cS : ClassId) (q_plan q_plan_kinds q_plan_comes q_plan_wants q_plan_outs : Nat) (plan_law : Int32) (plan_count : Int32) (plan_bells : Int64) (plan_comes : Nat → Int32) (plan_outs : Nat → Int32) (o : Int64) (hM : Co_movesOf plan_count plan_comes plan_outs = some o) : Cl l yX1_movesOf wsX1_movesOf rm_Co_movesOf D cI cJ cS [.ref q_plan] (w_Co_movesOf cI cJ cS q_plan q_plan_kinds q_plan_comes q_plan_wants q_plan_outs plan_law plan_count plan_bells plan_comes plan_outs) (w_Co_movesOf cI cJ cS q_plan q_plan_kinds q_plan_comes q_plan_wants q_plan_outs plan_law plan_count plan_bells plan_comes plan_outs) o := by
  refine Cl.of (cc := cX1_movesOf) (maxL := 4) (ret := (some .long)) (by decide) rfl (Nat.le_of_ble_eq_true rfl) ?_
  intro p e s m args below meth c A ls hE
  obtain ⟨hx, hb, hr, hml, hown, hts, hlocks, hK, hA, hP, hD, hS, hl⟩ := hE
  have hown : s.vm.findClass RX1 = some m.cls := hown
  have hl : lv_has ls 4 [(0, .ref q_plan)] := hl
  have iX3 : ∀ w ∈ u_ws RX3 TX3 7, w ∈ wsX1_movesOf := by decide +kernel
  have k0 := hts (.fieldLink RX1 46 "TurnQueue$Plan" "count" "I") (by decide +kernel)
  have k1 := hts (.fieldLink RX1 49 "TurnQueue$Plan" "comes" "[I") (by decide +kernel)
  have k2 := hts (.fieldLink RX1 84 "TurnQueue$Plan" "outs" "[I") (by decide +kernel)
  have L4 : ∀ n : Nat, (∀ (x1 : Int64) (x3 : Int32), itr (Co_movesOf_s4 plan_count plan_comes plan_outs) n (x1, x3) = some o → ∀ (H : Heap) (locs : List Loc), va_P D vwCl (w_Co_movesOf cI cJ cS q_plan q_plan_kinds q_plan_comes q_plan_wants q_plan_outs plan_law plan_count plan_bells plan_comes plan_outs) H → va_D A (w_Co_movesOf cI cJ cS q_plan q_plan_kinds q_plan_comes q_plan_wants q_plan_outs plan_law plan_count plan_bells plan_comes plan_outs) → va_S A s.heap H locs → ∀ ls : Array Slot, lv_has ls 4 [(0, .ref q_plan), (1, .long x1), (3, .int x3)] → W p l e (headSpec wsX1_movesOf rm_Co_movesOf).room s m args below meth c H locs 0 0 (MQ below (CQl D (w_Co_movesOf cI cJ cS q_plan q_plan_kinds q_plan_comes q_plan_wants q_plan_outs plan_law plan_count plan_bells plan_comes plan_outs) A o) args s 0 0 A) (F0 m 4 ls [])) := by
    intro n
    induction n with
    | zero => exact fun _ _ hM => (itr_0 hM).elim
    | succ n ih =>
      intro x1 x3 hM H locs hP hD hS ls hl
      have hM : (Co_movesOf_b4 plan_count plan_comes plan_outs x1 x3).bind (sg (itr (Co_movesOf_s4 plan_count plan_comes plan_outs) n)) = some o := hM
      unfold Co_movesOf_b4 at hM
      refine lv_iload_n hx hb dX1_movesOf_4 rfl (lv_at hl 2 rfl) ?_
      refine lv_aload_n hx hb dX1_movesOf_5 rfl (lv_at hl 0 rfl) ?_
      refine va_get (ci := 3) (v := .int plan_count) (C := RX3) (T := TX3) (N := 7) hx hb hts iX3 hown hK.1 hP 0 rfl rfl 1 (Nat.le_of_ble_eq_true rfl) k0 (fun _ h9 => h9) rfl dX1_movesOf_6 ?_
      refine lv_icmp_ge (tgt := 51) hx hb dX1_movesOf_9 (by decide) (fun c1 => ?_) (fun c1 => ?_)
      · have hM := (s_if hM).1 c1
        refine lv_lload_n hx hb dX1_movesOf_51 rfl (lv_at hl 1 rfl) ?_
        have hM := (Option.some.inj (s_rt hM))
        subst hM
        exact rt_l hx hb hr hlocks hP hD hS dX1_movesOf_52
      · have hM := (s_if hM).2 c1
        refine lv_lload_n hx hb dX1_movesOf_12 rfl (lv_at hl 1 rfl) ?_
        refine lv_lconst (v := 1) hx hb dX1_movesOf_13 (by decide) ?_
        refine lv_aload_n hx hb dX1_movesOf_14 rfl (lv_at hl 0 rfl) ?_
        refine va_get (ci := 3) (v := .ref q_plan_comes) (C := RX3) (T := TX3) (N := 7) hx hb hts iX3 hown hK.1 hP 0 rfl rfl 4 (Nat.le_of_ble_eq_true rfl) k1 (fun _ h9 => h9) rfl dX1_movesOf_15 ?_
        refine lv_iload_n hx hb dX1_movesOf_18 rfl (lv_at hl 2 rfl) ?_
        obtain ⟨h2, hM⟩ := s_ck hM
        refine va_iald hx hb hK.1 hP 1 0 rfl rfl h2 dX1_movesOf_19 ?_
        refine lv_lshl (v := (1 : Int64) <<< ((plan_comes x3.toNatClampNeg).toInt64 &&& 63)) hx hb dX1_movesOf_20 rfl ?_
        refine lv_lor hx hb dX1_movesOf_21 ?_
        refine lv_topl (fun y3 ey3 => ?_)
        have hM := s_lt hM y3 ey3
        refine lv_lstore_n (lv' := [(1, .long y3), (0, .ref q_plan), (3, .int x3)]) hx hb dX1_movesOf_22 rfl hl (Nat.le_of_ble_eq_true rfl) rfl (fun ls hl => ?_)
        refine lv_aload_n hx hb dX1_movesOf_23 rfl (lv_at hl 1 rfl) ?_
        refine va_get (ci := 3) (v := .ref q_plan_outs) (C := RX3) (T := TX3) (N := 7) hx hb hts iX3 hown hK.1 hP 0 rfl rfl 6 (Nat.le_of_ble_eq_true rfl) k2 (fun _ h9 => h9) rfl dX1_movesOf_24 ?_
        refine lv_iload_n hx hb dX1_movesOf_27 rfl (lv_at hl 2 rfl) ?_
        obtain ⟨h4, hM⟩ := s_ck hM
        refine va_iald hx hb hK.1 hP 2 0 rfl rfl h4 dX1_movesOf_28 ?_
        refine lv_bipush (v := (-9)) hx hb dX1_movesOf_29 (by decide) ?_
        refine lv_icmp_eq (tgt := 45) hx hb dX1_movesOf_31 (by decide) (fun c5 => ?_) (fun c5 => ?_)
        · have hM := (s_if hM).1 c5
          obtain ⟨y6, ey6⟩ : ∃ y : Int32, y = x3 + 1 := ⟨_, rfl⟩
          have hM := s_lt hM y6 ey6
          refine lv_iinc (v := y6) (lv' := [(3, .int y6), (1, .long y3), (0, .ref q_plan)]) hx hb dX1_movesOf_45 hl (k := 2) rfl (by rw [ey6]; rfl) (Nat.le_of_ble_eq_true rfl) rfl (fun ls hl => ?_)
          refine lv_goto (tgt := 4) hx hb dX1_movesOf_48 (by decide) ?_
          exact ih y3 y6 (s_jp hM) _ _ hP hD hS _ (lv_sub hl [2, 1, 0] rfl)
        · have hM := (s_if hM).2 c5
          refine lv_lload_n hx hb dX1_movesOf_34 rfl (lv_at hl 0 rfl) ?_
          refine lv_lconst (v := 1) hx hb dX1_movesOf_35 (by decide) ?_
          refine lv_aload_n hx hb dX1_movesOf_36 rfl (lv_at hl 1 rfl) ?_
          refine va_get (ci := 3) (v := .ref q_plan_outs) (C := RX3) (T := TX3) (N := 7) hx hb hts iX3 hown hK.1 hP 0 rfl rfl 6 (Nat.le_of_ble_eq_true rfl) k2 (fun _ h9 => h9) rfl dX1_movesOf_37 ?_
          refine lv_iload_n hx hb dX1_movesOf_40 rfl (lv_at hl 2 rfl) ?_
          obtain ⟨h7, hM⟩ := s_ck hM
          refine va_iald hx hb hK.1 hP 2 0 rfl rfl h7 dX1_movesOf_41 ?_
          refine lv_lshl (v := (1 : Int64) <<< ((plan_outs x3.toNatClampNeg).toInt64 &&& 63)) hx hb dX1_movesOf_42 rfl ?_
          refine lv_lor hx hb dX1_movesOf_43 ?_
          refine lv_topl (fun y8 ey8 => ?_)
          have hM := s_lt hM y8 ey8
          refine lv_lstore_n (lv' := [(1, .long y8), (0, .ref q_plan), (3, .int x3)]) hx hb dX1_movesOf_44 rfl hl (Nat.le_of_ble_eq_true rfl) rfl (fun ls hl => ?_)
          obtain ⟨y9, ey9⟩ : ∃ y : Int32, y = x3 + 1 := ⟨_, rfl⟩
          have hM := s_lt hM y9 ey9
          refine lv_iinc (v := y9) (lv' := [(3, .int y9), (1, .long y8), (0, .ref q_plan)]) hx hb dX1_movesOf_45 hl (k := 2) rfl (by rw [ey9]; rfl) (Nat.le_of_ble_eq_true rfl) rfl (fun ls hl => ?_)
          refine lv_goto (tgt := 4) hx hb dX1_movesOf_48 (by decide) ?_
          exact ih y8 y9 (s_jp hM) _ _ hP hD hS _ (lv_sub hl [2, 1, 0] rfl)
  have J4 : ∀ (x1 : Int64) (x3 : Int32), Co_movesOf_l4 plan_count plan_comes plan_outs x1 x3 = some o → ∀ (H : Heap) (locs : List Loc), va_P D vwCl (w_Co_movesOf cI cJ cS q_plan q_plan_kinds q_plan_comes q_plan_wants q_plan_outs plan_law plan_count plan_bells plan_comes plan_outs) H → va_D A (w_Co_movesOf cI cJ cS q_plan q_plan_kinds q_plan_comes q_plan_wants q_plan_outs plan_law plan_count plan_bells plan_comes plan_outs) → va_S A s.heap H locs → ∀ ls : Array Slot, lv_has ls 4 [(0, .ref q_plan), (1, .long x1), (3, .int x3)] → W p l e (headSpec wsX1_movesOf rm_Co_movesOf).room s m args below meth c H locs 0 0 (MQ below (CQl D (w_Co_movesOf cI cJ cS q_plan q_plan_kinds q_plan_comes q_plan_wants q_plan_outs plan_law plan_count plan_bells plan_comes plan_outs) A o) args s 0 0 A) (F0 m 4 ls []) := by
    intro x1 x3 hM
    unfold Co_movesOf_l4 at hM
    obtain ⟨n0, hM⟩ := fin_some hM
    exact (L4 n0) x1 x3 hM
  unfold Co_movesOf at hM
  refine lv_lconst (v := 0) hx hb dX1_movesOf_0 (by decide) ?_
  refine lv_lstore_n (lv' := [(1, .long 0), (0, .ref q_plan)]) hx hb dX1_movesOf_1 rfl hl (Nat.le_of_ble_eq_true rfl) rfl (fun ls hl => ?_)
  refine lv_iconst (v := 0) hx hb dX1_movesOf_2 (by decide) ?_
  refine lv_istore_n (lv' := [(3, .int 0), (1, .long 0), (0, .ref q_plan)]) hx hb dX1_movesOf_3 rfl hl (Nat.le_of_ble_eq_true rfl) rfl (fun ls hl => ?_)
  exact J4 0 0 hM _ _ hP hD hS _ (lv_sub hl [2, 1, 0] rfl)
/-! ===== TurnQueue$Counter.letRunOut ===== -/
abbrev w_Co_letRunOut (cI cJ cS : ClassId) (q_t : Nat) (q_plan : Nat) (q_t_line : Nat) (q_t_servedAt : Nat) (q_t_line_row : Nat) (q_plan_kinds : Nat) (q_plan_comes : Nat) (q_plan_wants : Nat) (q_plan_outs : Nat) (t_serving : Int32) (t_awaited : Int32) (t_turnable : Int64) (t_doneAt : Int32) (t_line_size : Int32) (t_line_row : Nat → Int32) (plan_law : Int32) (plan_count : Int32) (plan_bells : Int64) (plan_outs : Nat → Int32) : va_W := [(q_t, .inr (1, [.ref q_t_line, .ref q_t_servedAt, .int t_serving, .int t_awaited, .long t_turnable, .int t_doneAt])), (q_t_line, .inr (2, [.ref q_t_line_row, .int t_line_size])), (q_t_line_row, ar cI 7 t_line_row), (q_plan, .inr (3, [.int plan_law, .int plan_count, .long plan_bells, .ref q_plan_kinds, .ref q_plan_comes, .ref q_plan_wants, .ref q_plan_outs])), (q_plan_outs, ar cI 7 plan_outs)]
abbrev rm_Co_letRunOut : Room := { frames := 1, cells := 0, slots := 0, locals := 23 }
noncomputable def Co_letRunOut_b2 (p_minute : Int32) (plan_count : Int32) (plan_outs : Nat → Int32) (x3 : Int32) (t_line_size : Int32) (t_line_row : Nat → Int32) : Option ((Int32 × Int32 × (Nat → Int32)) ⊕ (Int32 × (Nat → Int32))) :=
  if plan_count ≤ x3 then
    some (.inr (t_line_size, t_line_row))
  else
    if ck x3 7 = true then
      if (plan_outs x3.toNatClampNeg) = p_minute then
        (Li_placeOf x3 t_line_size t_line_row).bind fun y4 =>
        if y4 = (-9) then
          lt (x3 + 1) fun y12 =>
          some (.inl (y12, t_line_size, t_line_row))
        else
          (Li_remove y4 t_line_size t_line_row).bind fun y7 =>
          (Li_insert y7.2.1 x3 y7.2.1 y7.2.2).bind fun y9 =>
          lt (x3 + 1) fun y11 =>
          some (.inl (y11, y9.1, y9.2))
      else
        lt (x3 + 1) fun y13 =>
        some (.inl (y13, t_line_size, t_line_row))
    else none
noncomputable def Co_letRunOut_s2 (p_minute : Int32) (plan_count : Int32) (plan_outs : Nat → Int32) : (Int32 × Int32 × (Nat → Int32)) → Option ((Int32 × Int32 × (Nat → Int32)) ⊕ (Int32 × (Nat → Int32))) := fun x => Co_letRunOut_b2 p_minute plan_count plan_outs x.1 x.2.1 x.2.2
noncomputable def Co_letRunOut_l2 (p_minute : Int32) (plan_count : Int32) (plan_outs : Nat → Int32) (x3 : Int32) (t_line_size : Int32) (t_line_row : Nat → Int32) : Option (Int32 × (Nat → Int32)) := fin (Co_letRunOut_s2 p_minute plan_count plan_outs) (x3, t_line_size, t_line_row)
noncomputable def Co_letRunOut (p_minute : Int32) (plan_count : Int32) (plan_outs : Nat → Int32) (t_line_size : Int32) (t_line_row : Nat → Int32) : Option (Int32 × (Nat → Int32)) :=
  Co_letRunOut_l2 p_minute plan_count plan_outs 0 t_line_size t_line_row
theorem Co_letRunOut_l2_eq (p_minute : Int32) (plan_count : Int32) (plan_outs : Nat → Int32) (x3 : Int32) (t_line_size : Int32) (t_line_row : Nat → Int32) : Co_letRunOut_l2 p_minute plan_count plan_outs x3 t_line_size t_line_row = (Co_letRunOut_b2 p_minute plan_count plan_outs x3 t_line_size t_line_row).bind (sg (fin (Co_letRunOut_s2 p_minute plan_count plan_outs))) := by
  unfold Co_letRunOut_l2
  exact fin_eq _ _
theorem Co_letRunOut_l2_fd (p_minute : Int32) (plan_count : Int32) (plan_outs : Nat → Int32) (x3 : Int32) (t_line_size : Int32) (t_line_row : Nat → Int32) : fin (Co_letRunOut_s2 p_minute plan_count plan_outs) (x3, t_line_size, t_line_row) = Co_letRunOut_l2 p_minute plan_count plan_outs x3 t_line_size t_line_row := rfl
set_option maxRecDepth 100000 in
set_option maxHeartbeats 4000000 in
theorem c_Co_letRunOut (l : Launch) (D : va_G) (cI cJ cS : ClassId) (q_t q_plan q_t_line q_t_servedAt q_t_line_row q_plan_kinds q_plan_comes q_plan_wants q_plan_outs : Nat) (t_serving : Int32) (t_awaited : Int32) (t_turnable : Int64) (t_doneAt : Int32) (t_line_size : Int32) (t_line_row : Nat → Int32) (plan_law : Int32) (plan_count : Int32) (plan_bells : Int64) (plan_outs : Nat → Int32) (p_minute : Int32) (o : Int32 × (Nat → Int32)) (hM : Co_letRunOut p_minute plan_count plan_outs t_line_size t_line_row = some o) : Cv l yX1_letRunOut wsX1_letRunOut rm_Co_letRunOut D cI cJ cS [.ref q_t, .ref q_plan, .int p_minute] (w_Co_letRunOut cI cJ cS q_t q_plan q_t_line q_t_servedAt q_t_line_row q_plan_kinds q_plan_comes q_plan_wants q_plan_outs t_serving t_awaited t_turnable t_doneAt t_line_size t_line_row plan_law plan_count plan_bells plan_outs) (w_Co_letRunOut cI cJ cS q_t q_plan q_t_line q_t_servedAt q_t_line_row q_plan_kinds q_plan_comes q_plan_wants q_plan_outs t_serving t_awaited t_turnable t_doneAt o.1 o.2 plan_law plan_count plan_bells plan_outs) := by
  refine Cv.of (cc := cX1_letRunOut) (maxL := 5) (ret := none) (by decide) rfl (Nat.le_of_ble_eq_true rfl) ?_
  intro p e s m args below meth c A ls hE
  obtain ⟨hx, hb, hr, hml, hown, hts, hlocks, hK, hA, hP, hD, hS, hl⟩ := hE
  have hown : s.vm.findClass RX1 = some m.cls := hown
  have hl : lv_has ls 5 [(0, .ref q_t), (1, .ref q_plan), (2, .int p_minute)] := hl
  have iX3 : ∀ w ∈ u_ws RX3 TX3 7, w ∈ wsX1_letRunOut := by decide +kernel
  have iX1 : ∀ w ∈ u_ws RX1 TX1 6, w ∈ wsX1_letRunOut := by decide +kernel
  have iX2 : ∀ w ∈ u_ws RX2 TX2 2, w ∈ wsX1_letRunOut := by decide +kernel
  have k0 := hts (.fieldLink RX1 46 "TurnQueue$Plan" "count" "I") (by decide +kernel)
  have k1 := hts (.fieldLink RX1 84 "TurnQueue$Plan" "outs" "[I") (by decide +kernel)
  have k2 := hts (.fieldLink RX1 12 "TurnQueue$Counter" "line" "LTurnQueue$Line;") (by decide +kernel)
  have k3 := hts (.fieldLink RX1 52 "TurnQueue$Line" "size" "I") (by decide +kernel)
  have L2 : ∀ n : Nat, (∀ (x3 : Int32) (t_line_size : Int32) (t_line_row : Nat → Int32), itr (Co_letRunOut_s2 p_minute plan_count plan_outs) n (x3, t_line_size, t_line_row) = some o → ∀ (H : Heap) (locs : List Loc), va_P D vwCl (w_Co_letRunOut cI cJ cS q_t q_plan q_t_line q_t_servedAt q_t_line_row q_plan_kinds q_plan_comes q_plan_wants q_plan_outs t_serving t_awaited t_turnable t_doneAt t_line_size t_line_row plan_law plan_count plan_bells plan_outs) H → va_D A (w_Co_letRunOut cI cJ cS q_t q_plan q_t_line q_t_servedAt q_t_line_row q_plan_kinds q_plan_comes q_plan_wants q_plan_outs t_serving t_awaited t_turnable t_doneAt t_line_size t_line_row plan_law plan_count plan_bells plan_outs) → va_S A s.heap H locs → ∀ ls : Array Slot, lv_has ls 5 [(0, .ref q_t), (1, .ref q_plan), (2, .int p_minute), (3, .int x3)] → W p l e (headSpec wsX1_letRunOut rm_Co_letRunOut).room s m args below meth c H locs 0 0 (MQ below (CQv D (w_Co_letRunOut cI cJ cS q_t q_plan q_t_line q_t_servedAt q_t_line_row q_plan_kinds q_plan_comes q_plan_wants q_plan_outs t_serving t_awaited t_turnable t_doneAt o.1 o.2 plan_law plan_count plan_bells plan_outs) A) args s 0 0 A) (F0 m 2 ls [])) := by
    intro n
    induction n with
    | zero => exact fun _ _ _ hM => (itr_0 hM).elim
    | succ n ih =>
      intro x3 t_line_size t_line_row hM H locs hP hD hS ls hl
      have hM : (Co_letRunOut_b2 p_minute plan_count plan_outs x3 t_line_size t_line_row).bind (sg (itr (Co_letRunOut_s2 p_minute plan_count plan_outs) n)) = some o := hM
      unfold Co_letRunOut_b2 at hM
      refine lv_iload_n hx hb dX1_letRunOut_2 rfl (lv_at hl 3 rfl) ?_
      refine lv_aload_n hx hb dX1_letRunOut_3 rfl (lv_at hl 1 rfl) ?_
      refine va_get (ci := 3) (v := .int plan_count) (C := RX3) (T := TX3) (N := 7) hx hb hts iX3 hown hK.1 hP 3 rfl rfl 1 (Nat.le_of_ble_eq_true rfl) k0 (fun _ h9 => h9) rfl dX1_letRunOut_4 ?_
      refine lv_icmp_ge (tgt := 74) hx hb dX1_letRunOut_7 (by decide) (fun c1 => ?_) (fun c1 => ?_)
      · have hM := (s_if hM).1 c1
        have hM := (Option.some.inj (s_rt hM))
        subst hM
        exact rt_v hx hb hr hlocks hP hD hS dX1_letRunOut_74
      · have hM := (s_if hM).2 c1
        refine lv_aload_n hx hb dX1_letRunOut_10 rfl (lv_at hl 1 rfl) ?_
        refine va_get (ci := 3) (v := .ref q_plan_outs) (C := RX3) (T := TX3) (N := 7) hx hb hts iX3 hown hK.1 hP 3 rfl rfl 6 (Nat.le_of_ble_eq_true rfl) k1 (fun _ h9 => h9) rfl dX1_letRunOut_11 ?_
        refine lv_iload_n hx hb dX1_letRunOut_14 rfl (lv_at hl 3 rfl) ?_
        obtain ⟨h2, hM⟩ := s_ck hM
        refine va_iald hx hb hK.1 hP 4 0 rfl rfl h2 dX1_letRunOut_15 ?_
        refine lv_iload_n hx hb dX1_letRunOut_16 rfl (lv_at hl 2 rfl) ?_
        refine lv_icmp_eq (tgt := 23) hx hb dX1_letRunOut_17 (by decide) (fun c3 => ?_) (fun c3 => ?_)
        · have hM := (s_if hM).1 c3
          refine lv_aload_n hx hb dX1_letRunOut_23 rfl (lv_at hl 0 rfl) ?_
          refine va_get (ci := 1) (v := .ref q_t_line) (C := RX1) (T := TX1) (N := 6) hx hb hts iX1 hown hK.1 hP 0 rfl rfl 0 (Nat.le_of_ble_eq_true rfl) k2 (fun _ h9 => h9) rfl dX1_letRunOut_24 ?_
          refine lv_iload_n hx hb dX1_letRunOut_27 rfl (lv_at hl 3 rfl) ?_
          obtain ⟨y4, h5, hM⟩ := s_bd hM
          refine af_i (ws2 := (w_Co_letRunOut cI cJ cS q_t q_plan q_t_line q_t_servedAt q_t_line_row q_plan_kinds q_plan_comes q_plan_wants q_plan_outs t_serving t_awaited t_turnable t_doneAt t_line_size t_line_row plan_law plan_count plan_bells plan_outs)) (va_runV (As := [.int x3]) (rest := []) ⟨hx, hb, hml, hown, hts⟩ (c_Li_placeOf l D cI cJ cS q_t_line q_t_line_row t_line_size t_line_row x3 y4 h5 _) (cwV 1 hts gX1_letRunOut_X2_placeOf rfl rfl rfl (by decide +kernel) ⟨(Nat.le_of_ble_eq_true rfl), (Nat.le_of_ble_eq_true rfl)⟩) (pre_V hK hP hD [1, 2] rfl rfl rfl rfl) rfl rfl hl.1 rfl (lv_room (Nat.le_of_ble_eq_true rfl)) dX1_letRunOut_28 ⟨Nat.zero_le _, Nat.zero_le _⟩) hP hD hS hA [1, 2] [0, 3, 4] [0, 3, 4, 1, 2] rfl rfl rfl (by decide) rfl rfl (fun H locs hP hD hS => ?_)
          refine lv_istore (lv' := [(4, .int y4), (0, .ref q_t), (1, .ref q_plan), (2, .int p_minute), (3, .int x3)]) hx hb dX1_letRunOut_31 hl (Nat.le_of_ble_eq_true rfl) rfl (fun ls hl => ?_)
          refine lv_iload hx hb dX1_letRunOut_33 (lv_at hl 0 rfl) ?_
          refine lv_bipush (v := (-9)) hx hb dX1_letRunOut_35 (by decide) ?_
          refine lv_icmp_ne (tgt := 43) hx hb dX1_letRunOut_37 (by decide) (fun c6 => ?_) (fun c6 => ?_)
          · have hM := (s_if hM).2 c6
            refine lv_aload_n hx hb dX1_letRunOut_43 rfl (lv_at hl 1 rfl) ?_
            refine va_get (ci := 1) (v := .ref q_t_line) (C := RX1) (T := TX1) (N := 6) hx hb hts iX1 hown hK.1 hP 0 rfl rfl 0 (Nat.le_of_ble_eq_true rfl) k2 (fun _ h9 => h9) rfl dX1_letRunOut_44 ?_
            refine lv_iload hx hb dX1_letRunOut_47 (lv_at hl 0 rfl) ?_
            obtain ⟨y7, h8, hM⟩ := s_bd hM
            refine af_i (ws2 := (w_Co_letRunOut cI cJ cS q_t q_plan q_t_line q_t_servedAt q_t_line_row q_plan_kinds q_plan_comes q_plan_wants q_plan_outs t_serving t_awaited t_turnable t_doneAt y7.2.1 y7.2.2 plan_law plan_count plan_bells plan_outs)) (va_runV (As := [.int y4]) (rest := []) ⟨hx, hb, hml, hown, hts⟩ (c_Li_remove l D cI cJ cS q_t_line q_t_line_row t_line_size t_line_row y4 y7 h8 _) (cwV 1 hts gX1_letRunOut_X2_remove rfl rfl rfl (by decide +kernel) ⟨(Nat.le_of_ble_eq_true rfl), (Nat.le_of_ble_eq_true rfl)⟩) (pre_V hK hP hD [1, 2] rfl rfl rfl rfl) rfl rfl hl.1 rfl (lv_room (Nat.le_of_ble_eq_true rfl)) dX1_letRunOut_49 ⟨Nat.zero_le _, Nat.zero_le _⟩) hP hD hS hA [1, 2] [0, 3, 4] [0, 3, 4, 1, 2] rfl rfl rfl (by decide) rfl rfl (fun H locs hP hD hS => ?_)
            refine lv_pop hx hb dX1_letRunOut_52 rfl ?_
            refine lv_aload_n hx hb dX1_letRunOut_53 rfl (lv_at hl 1 rfl) ?_
            refine va_get (ci := 1) (v := .ref q_t_line) (C := RX1) (T := TX1) (N := 6) hx hb hts iX1 hown hK.1 hP 0 rfl rfl 0 (Nat.le_of_ble_eq_true rfl) k2 (fun _ h9 => h9) rfl dX1_letRunOut_54 ?_
            refine lv_aload_n hx hb dX1_letRunOut_57 rfl (lv_at hl 1 rfl) ?_
            refine va_get (ci := 1) (v := .ref q_t_line) (C := RX1) (T := TX1) (N := 6) hx hb hts iX1 hown hK.1 hP 0 rfl rfl 0 (Nat.le_of_ble_eq_true rfl) k2 (fun _ h9 => h9) rfl dX1_letRunOut_58 ?_
            refine va_get (ci := 2) (v := .int y7.2.1) (C := RX2) (T := TX2) (N := 2) hx hb hts iX2 hown hK.1 hP 1 rfl rfl 1 (Nat.le_of_ble_eq_true rfl) k3 (fun _ h9 => h9) rfl dX1_letRunOut_61 ?_
            refine lv_iload_n hx hb dX1_letRunOut_64 rfl (lv_at hl 4 rfl) ?_
            obtain ⟨y9, h10, hM⟩ := s_bd hM
            refine af_v (ws2 := (w_Co_letRunOut cI cJ cS q_t q_plan q_t_line q_t_servedAt q_t_line_row q_plan_kinds q_plan_comes q_plan_wants q_plan_outs t_serving t_awaited t_turnable t_doneAt y9.1 y9.2 plan_law plan_count plan_bells plan_outs)) (va_runV (As := [.int y7.2.1, .int x3]) (rest := []) ⟨hx, hb, hml, hown, hts⟩ (c_Li_insert l D cI cJ cS q_t_line q_t_line_row y7.2.1 y7.2.2 y7.2.1 x3 y9 h10 _) (cwV 2 hts gX1_letRunOut_X2_insert rfl rfl rfl (by decide +kernel) ⟨(Nat.le_of_ble_eq_true rfl), (Nat.le_of_ble_eq_true rfl)⟩) (pre_V hK hP hD [1, 2] rfl rfl rfl rfl) rfl rfl hl.1 rfl (lv_room (Nat.le_of_ble_eq_true rfl)) dX1_letRunOut_65 ⟨Nat.zero_le _, Nat.zero_le _⟩) hP hD hS hA [1, 2] [0, 3, 4] [0, 3, 4, 1, 2] rfl rfl rfl (by decide) rfl rfl (fun H locs hP hD hS => ?_)
            obtain ⟨y11, ey11⟩ : ∃ y : Int32, y = x3 + 1 := ⟨_, rfl⟩
            have hM := s_lt hM y11 ey11
            refine lv_iinc (v := y11) (lv' := [(3, .int y11), (4, .int y4), (0, .ref q_t), (1, .ref q_plan), (2, .int p_minute)]) hx hb dX1_letRunOut_68 hl (k := 4) rfl (by rw [ey11]; rfl) (Nat.le_of_ble_eq_true rfl) rfl (fun ls hl => ?_)
            refine lv_goto (tgt := 2) hx hb dX1_letRunOut_71 (by decide) ?_
            exact ih y11 y9.1 y9.2 (s_jp hM) _ _ hP hD hS _ (lv_sub hl [2, 3, 4, 0] rfl)
          · have hM := (s_if hM).1 c6
            refine lv_goto (tgt := 68) hx hb dX1_letRunOut_40 (by decide) ?_
            obtain ⟨y12, ey12⟩ : ∃ y : Int32, y = x3 + 1 := ⟨_, rfl⟩
            have hM := s_lt hM y12 ey12
            refine lv_iinc (v := y12) (lv' := [(3, .int y12), (4, .int y4), (0, .ref q_t), (1, .ref q_plan), (2, .int p_minute)]) hx hb dX1_letRunOut_68 hl (k := 4) rfl (by rw [ey12]; rfl) (Nat.le_of_ble_eq_true rfl) rfl (fun ls hl => ?_)
            refine lv_goto (tgt := 2) hx hb dX1_letRunOut_71 (by decide) ?_
            exact ih y12 t_line_size t_line_row (s_jp hM) _ _ hP hD hS _ (lv_sub hl [2, 3, 4, 0] rfl)
        · have hM := (s_if hM).2 c3
          refine lv_goto (tgt := 68) hx hb dX1_letRunOut_20 (by decide) ?_
          obtain ⟨y13, ey13⟩ : ∃ y : Int32, y = x3 + 1 := ⟨_, rfl⟩
          have hM := s_lt hM y13 ey13
          refine lv_iinc (v := y13) (lv' := [(3, .int y13), (0, .ref q_t), (1, .ref q_plan), (2, .int p_minute)]) hx hb dX1_letRunOut_68 hl (k := 3) rfl (by rw [ey13]; rfl) (Nat.le_of_ble_eq_true rfl) rfl (fun ls hl => ?_)
          refine lv_goto (tgt := 2) hx hb dX1_letRunOut_71 (by decide) ?_
          exact ih y13 t_line_size t_line_row (s_jp hM) _ _ hP hD hS _ (lv_sub hl [1, 2, 3, 0] rfl)
  have J2 : ∀ (x3 : Int32) (t_line_size : Int32) (t_line_row : Nat → Int32), Co_letRunOut_l2 p_minute plan_count plan_outs x3 t_line_size t_line_row = some o → ∀ (H : Heap) (locs : List Loc), va_P D vwCl (w_Co_letRunOut cI cJ cS q_t q_plan q_t_line q_t_servedAt q_t_line_row q_plan_kinds q_plan_comes q_plan_wants q_plan_outs t_serving t_awaited t_turnable t_doneAt t_line_size t_line_row plan_law plan_count plan_bells plan_outs) H → va_D A (w_Co_letRunOut cI cJ cS q_t q_plan q_t_line q_t_servedAt q_t_line_row q_plan_kinds q_plan_comes q_plan_wants q_plan_outs t_serving t_awaited t_turnable t_doneAt t_line_size t_line_row plan_law plan_count plan_bells plan_outs) → va_S A s.heap H locs → ∀ ls : Array Slot, lv_has ls 5 [(0, .ref q_t), (1, .ref q_plan), (2, .int p_minute), (3, .int x3)] → W p l e (headSpec wsX1_letRunOut rm_Co_letRunOut).room s m args below meth c H locs 0 0 (MQ below (CQv D (w_Co_letRunOut cI cJ cS q_t q_plan q_t_line q_t_servedAt q_t_line_row q_plan_kinds q_plan_comes q_plan_wants q_plan_outs t_serving t_awaited t_turnable t_doneAt o.1 o.2 plan_law plan_count plan_bells plan_outs) A) args s 0 0 A) (F0 m 2 ls []) := by
    intro x3 t_line_size t_line_row hM
    unfold Co_letRunOut_l2 at hM
    obtain ⟨n0, hM⟩ := fin_some hM
    exact (L2 n0) x3 t_line_size t_line_row hM
  unfold Co_letRunOut at hM
  refine lv_iconst (v := 0) hx hb dX1_letRunOut_0 (by decide) ?_
  refine lv_istore_n (lv' := [(3, .int 0), (0, .ref q_t), (1, .ref q_plan), (2, .int p_minute)]) hx hb dX1_letRunOut_1 rfl hl (Nat.le_of_ble_eq_true rfl) rfl (fun ls hl => ?_)
  exact J2 0 t_line_size t_line_row hM _ _ hP hD hS _ (lv_sub hl [1, 2, 3, 0] rfl)
/-! ===== TurnQueue$Counter.placeToStand ===== -/
abbrev w_Co_placeToStand (cI cJ cS : ClassId) (q_t : Nat) (q_plan : Nat) (q_t_line : Nat) (q_t_servedAt : Nat) (q_t_line_row : Nat) (q_plan_kinds : Nat) (q_plan_comes : Nat) (q_plan_wants : Nat) (q_plan_outs : Nat) (t_serving : Int32) (t_awaited : Int32) (t_turnable : Int64) (t_doneAt : Int32) (t_line_size : Int32) (t_line_row : Nat → Int32) (plan_law : Int32) (plan_count : Int32) (plan_bells : Int64) (plan_kinds : Nat → Int32) : va_W := [(q_t, .inr (1, [.ref q_t_line, .ref q_t_servedAt, .int t_serving, .int t_awaited, .long t_turnable, .int t_doneAt])), (q_t_line, .inr (2, [.ref q_t_line_row, .int t_line_size])), (q_t_line_row, ar cI 7 t_line_row), (q_plan, .inr (3, [.int plan_law, .int plan_count, .long plan_bells, .ref q_plan_kinds, .ref q_plan_comes, .ref q_plan_wants, .ref q_plan_outs])), (q_plan_kinds, ar cI 7 plan_kinds)]
abbrev rm_Co_placeToStand : Room := { frames := 1, cells := 0, slots := 0, locals := 21 }
noncomputable def Co_placeToStand_b41 (p_p : Int32) (t_line_size : Int32) (t_line_row : Nat → Int32) (plan_kinds : Nat → Int32) (x3 : Int32) (x4 : Int32) : Option ((Int32 × Int32) ⊕ (Int32)) :=
  if x3 ≤ x4 then
    some (.inr x3)
  else
    if ck x4 7 = true then
      if ck (t_line_row x4.toNatClampNeg) 7 = true then
        if (plan_kinds (t_line_row x4.toNatClampNeg).toNatClampNeg) < 1 then
          lt (x4 + 1) fun y9 =>
          some (.inl (x3, y9))
        else
          some (.inr (x4 + 1))
      else none
    else none
noncomputable def Co_placeToStand_s41 (p_p : Int32) (t_line_size : Int32) (t_line_row : Nat → Int32) (plan_kinds : Nat → Int32) : (Int32 × Int32) → Option ((Int32 × Int32) ⊕ (Int32)) := fun x => Co_placeToStand_b41 p_p t_line_size t_line_row plan_kinds x.1 x.2
noncomputable def Co_placeToStand_l41 (p_p : Int32) (t_line_size : Int32) (t_line_row : Nat → Int32) (plan_kinds : Nat → Int32) (x3 : Int32) (x4 : Int32) : Option (Int32) := fin (Co_placeToStand_s41 p_p t_line_size t_line_row plan_kinds) (x3, x4)
noncomputable def Co_placeToStand (p_p : Int32) (t_line_size : Int32) (t_line_row : Nat → Int32) (plan_kinds : Nat → Int32) : Option (Int32) :=
  if ck p_p 7 = true then
    if (plan_kinds p_p.toNatClampNeg) = 1 then
      some (if (t_line_size - 1) < 0 then 0 else (t_line_size - 1))
    else
      if ck p_p 7 = true then
        if (plan_kinds p_p.toNatClampNeg) = 2 then
          Co_placeToStand_l41 p_p t_line_size t_line_row plan_kinds t_line_size 0
        else
          some t_line_size
      else none
  else none
theorem Co_placeToStand_l41_eq (p_p : Int32) (t_line_size : Int32) (t_line_row : Nat → Int32) (plan_kinds : Nat → Int32) (x3 : Int32) (x4 : Int32) : Co_placeToStand_l41 p_p t_line_size t_line_row plan_kinds x3 x4 = (Co_placeToStand_b41 p_p t_line_size t_line_row plan_kinds x3 x4).bind (sg (fin (Co_placeToStand_s41 p_p t_line_size t_line_row plan_kinds))) := by
  unfold Co_placeToStand_l41
  exact fin_eq _ _
theorem Co_placeToStand_l41_fd (p_p : Int32) (t_line_size : Int32) (t_line_row : Nat → Int32) (plan_kinds : Nat → Int32) (x3 : Int32) (x4 : Int32) : fin (Co_placeToStand_s41 p_p t_line_size t_line_row plan_kinds) (x3, x4) = Co_placeToStand_l41 p_p t_line_size t_line_row plan_kinds x3 x4 := rfl
set_option maxRecDepth 100000 in
set_option maxHeartbeats 4000000 in
theorem c_Co_placeToStand (l : Launch) (D : va_G) (cI cJ cS : ClassId) (q_t q_plan q_t_line q_t_servedAt q_t_line_row q_plan_kinds q_plan_comes q_plan_wants q_plan_outs : Nat) (t_serving : Int32) (t_awaited : Int32) (t_turnable : Int64) (t_doneAt : Int32) (t_line_size : Int32) (t_line_row : Nat → Int32) (plan_law : Int32) (plan_count : Int32) (plan_bells : Int64) (plan_kinds : Nat → Int32) (p_p : Int32) (o : Int32) (hM : Co_placeToStand p_p t_line_size t_line_row plan_kinds = some o) : Ci l yX1_placeToStand wsX1_placeToStand rm_Co_placeToStand D cI cJ cS [.ref q_t, .ref q_plan, .int p_p] (w_Co_placeToStand cI cJ cS q_t q_plan q_t_line q_t_servedAt q_t_line_row q_plan_kinds q_plan_comes q_plan_wants q_plan_outs t_serving t_awaited t_turnable t_doneAt t_line_size t_line_row plan_law plan_count plan_bells plan_kinds) (w_Co_placeToStand cI cJ cS q_t q_plan q_t_line q_t_servedAt q_t_line_row q_plan_kinds q_plan_comes q_plan_wants q_plan_outs t_serving t_awaited t_turnable t_doneAt t_line_size t_line_row plan_law plan_count plan_bells plan_kinds) o := by
  refine Ci.of (cc := cX1_placeToStand) (maxL := 5) (ret := (some .int)) (by decide) rfl (Nat.le_of_ble_eq_true rfl) ?_
  intro p e s m args below meth c A ls hE
  obtain ⟨hx, hb, hr, hml, hown, hts, hlocks, hK, hA, hP, hD, hS, hl⟩ := hE
  have hown : s.vm.findClass RX1 = some m.cls := hown
  have hl : lv_has ls 5 [(0, .ref q_t), (1, .ref q_plan), (2, .int p_p)] := hl
  have iX1 : ∀ w ∈ u_ws RX1 TX1 6, w ∈ wsX1_placeToStand := by decide +kernel
  have iX2 : ∀ w ∈ u_ws RX2 TX2 2, w ∈ wsX1_placeToStand := by decide +kernel
  have iX3 : ∀ w ∈ u_ws RX3 TX3 7, w ∈ wsX1_placeToStand := by decide +kernel
  have k0 := hts (.fieldLink RX1 12 "TurnQueue$Counter" "line" "LTurnQueue$Line;") (by decide +kernel)
  have k1 := hts (.fieldLink RX1 52 "TurnQueue$Line" "size" "I") (by decide +kernel)
  have k2 := hts (.fieldLink RX1 106 "TurnQueue$Plan" "kinds" "[I") (by decide +kernel)
  have k3 := hts (.methodLink RX1 109 Lib.Math.max.name) (by decide +kernel)
  have k4 := hts (.static Lib.Math.max.name) (by decide +kernel)
  have k5 := hts (.initialized "java/lang/Math") (by decide +kernel)
  have k6 := hts (.code Lib.Math.max.name Lib.Math.max.code 2 (some .int)) (by decide +kernel)
  have L41 : ∀ n : Nat, (∀ (x3 : Int32) (x4 : Int32), itr (Co_placeToStand_s41 p_p t_line_size t_line_row plan_kinds) n (x3, x4) = some o → ∀ (H : Heap) (locs : List Loc), va_P D vwCl (w_Co_placeToStand cI cJ cS q_t q_plan q_t_line q_t_servedAt q_t_line_row q_plan_kinds q_plan_comes q_plan_wants q_plan_outs t_serving t_awaited t_turnable t_doneAt t_line_size t_line_row plan_law plan_count plan_bells plan_kinds) H → va_D A (w_Co_placeToStand cI cJ cS q_t q_plan q_t_line q_t_servedAt q_t_line_row q_plan_kinds q_plan_comes q_plan_wants q_plan_outs t_serving t_awaited t_turnable t_doneAt t_line_size t_line_row plan_law plan_count plan_bells plan_kinds) → va_S A s.heap H locs → ∀ ls : Array Slot, lv_has ls 5 [(0, .ref q_t), (1, .ref q_plan), (3, .int x3), (4, .int x4)] → W p l e (headSpec wsX1_placeToStand rm_Co_placeToStand).room s m args below meth c H locs 0 0 (MQ below (CQi D (w_Co_placeToStand cI cJ cS q_t q_plan q_t_line q_t_servedAt q_t_line_row q_plan_kinds q_plan_comes q_plan_wants q_plan_outs t_serving t_awaited t_turnable t_doneAt t_line_size t_line_row plan_law plan_count plan_bells plan_kinds) A o) args s 0 0 A) (F0 m 41 ls [])) := by
    intro n
    induction n with
    | zero => exact fun _ _ hM => (itr_0 hM).elim
    | succ n ih =>
      intro x3 x4 hM H locs hP hD hS ls hl
      have hM : (Co_placeToStand_b41 p_p t_line_size t_line_row plan_kinds x3 x4).bind (sg (itr (Co_placeToStand_s41 p_p t_line_size t_line_row plan_kinds) n)) = some o := hM
      unfold Co_placeToStand_b41 at hM
      refine lv_iload hx hb dX1_placeToStand_41 (lv_at hl 3 rfl) ?_
      refine lv_iload_n hx hb dX1_placeToStand_43 rfl (lv_at hl 2 rfl) ?_
      refine lv_icmp_ge (tgt := 77) hx hb dX1_placeToStand_44 (by decide) (fun c5 => ?_) (fun c5 => ?_)
      · have hM := (s_if hM).1 c5
        refine lv_iload_n hx hb dX1_placeToStand_77 rfl (lv_at hl 2 rfl) ?_
        have hM := (Option.some.inj (s_rt hM))
        subst hM
        exact rt_i hx hb hr hlocks hP hD hS dX1_placeToStand_78
      · have hM := (s_if hM).2 c5
        refine lv_aload_n hx hb dX1_placeToStand_47 rfl (lv_at hl 1 rfl) ?_
        refine va_get (ci := 3) (v := .ref q_plan_kinds) (C := RX3) (T := TX3) (N := 7) hx hb hts iX3 hown hK.1 hP 3 rfl rfl 3 (Nat.le_of_ble_eq_true rfl) k2 (fun _ h9 => h9) rfl dX1_placeToStand_48 ?_
        refine lv_aload_n hx hb dX1_placeToStand_51 rfl (lv_at hl 0 rfl) ?_
        refine va_get (ci := 1) (v := .ref q_t_line) (C := RX1) (T := TX1) (N := 6) hx hb hts iX1 hown hK.1 hP 0 rfl rfl 0 (Nat.le_of_ble_eq_true rfl) k0 (fun _ h9 => h9) rfl dX1_placeToStand_52 ?_
        refine va_getN (ci := 2) (v := .ref q_t_line_row) (C := RX2) (T := TX2) (N := 2) (host := RX8) hx hb hts iX2 hown hK.1 hP 1 rfl rfl 0 (Nat.le_of_ble_eq_true rfl) (va_Nw.use rfl hK.2.2.2.2.2.2.2.2.2.2.2.2.2.2.2.2.2.2.2) (fun _ h9 => h9) rfl dX1_placeToStand_55 ?_
        refine lv_iload hx hb dX1_placeToStand_58 (lv_at hl 3 rfl) ?_
        obtain ⟨h6, hM⟩ := s_ck hM
        refine va_iald hx hb hK.1 hP 2 0 rfl rfl h6 dX1_placeToStand_60 ?_
        obtain ⟨h7, hM⟩ := s_ck hM
        refine va_iald hx hb hK.1 hP 4 0 rfl rfl h7 dX1_placeToStand_61 ?_
        refine lv_iconst (v := 1) hx hb dX1_placeToStand_62 (by decide) ?_
        refine lv_icmp_lt (tgt := 71) hx hb dX1_placeToStand_63 (by decide) (fun c8 => ?_) (fun c8 => ?_)
        · have hM := (s_if hM).1 c8
          obtain ⟨y9, ey9⟩ : ∃ y : Int32, y = x4 + 1 := ⟨_, rfl⟩
          have hM := s_lt hM y9 ey9
          refine lv_iinc (v := y9) (lv' := [(4, .int y9), (0, .ref q_t), (1, .ref q_plan), (3, .int x3)]) hx hb dX1_placeToStand_71 hl (k := 3) rfl (by rw [ey9]; rfl) (Nat.le_of_ble_eq_true rfl) rfl (fun ls hl => ?_)
          refine lv_goto (tgt := 41) hx hb dX1_placeToStand_74 (by decide) ?_
          exact ih x3 y9 (s_jp hM) _ _ hP hD hS _ (lv_sub hl [1, 2, 3, 0] rfl)
        · have hM := (s_if hM).2 c8
          refine lv_iload hx hb dX1_placeToStand_66 (lv_at hl 3 rfl) ?_
          refine lv_iconst (v := 1) hx hb dX1_placeToStand_68 (by decide) ?_
          refine lv_iadd hx hb dX1_placeToStand_69 ?_
          have hM := (Option.some.inj (s_rt hM))
          subst hM
          exact rt_i hx hb hr hlocks hP hD hS dX1_placeToStand_70
  have J41 : ∀ (x3 : Int32) (x4 : Int32), Co_placeToStand_l41 p_p t_line_size t_line_row plan_kinds x3 x4 = some o → ∀ (H : Heap) (locs : List Loc), va_P D vwCl (w_Co_placeToStand cI cJ cS q_t q_plan q_t_line q_t_servedAt q_t_line_row q_plan_kinds q_plan_comes q_plan_wants q_plan_outs t_serving t_awaited t_turnable t_doneAt t_line_size t_line_row plan_law plan_count plan_bells plan_kinds) H → va_D A (w_Co_placeToStand cI cJ cS q_t q_plan q_t_line q_t_servedAt q_t_line_row q_plan_kinds q_plan_comes q_plan_wants q_plan_outs t_serving t_awaited t_turnable t_doneAt t_line_size t_line_row plan_law plan_count plan_bells plan_kinds) → va_S A s.heap H locs → ∀ ls : Array Slot, lv_has ls 5 [(0, .ref q_t), (1, .ref q_plan), (3, .int x3), (4, .int x4)] → W p l e (headSpec wsX1_placeToStand rm_Co_placeToStand).room s m args below meth c H locs 0 0 (MQ below (CQi D (w_Co_placeToStand cI cJ cS q_t q_plan q_t_line q_t_servedAt q_t_line_row q_plan_kinds q_plan_comes q_plan_wants q_plan_outs t_serving t_awaited t_turnable t_doneAt t_line_size t_line_row plan_law plan_count plan_bells plan_kinds) A o) args s 0 0 A) (F0 m 41 ls []) := by
    intro x3 x4 hM
    unfold Co_placeToStand_l41 at hM
    obtain ⟨n0, hM⟩ := fin_some hM
    exact (L41 n0) x3 x4 hM
  unfold Co_placeToStand at hM
  refine lv_aload_n hx hb dX1_placeToStand_0 rfl (lv_at hl 0 rfl) ?_
  refine va_get (ci := 1) (v := .ref q_t_line) (C := RX1) (T := TX1) (N := 6) hx hb hts iX1 hown hK.1 hP 0 rfl rfl 0 (Nat.le_of_ble_eq_true rfl) k0 (fun _ h9 => h9) rfl dX1_placeToStand_1 ?_
  refine va_get (ci := 2) (v := .int t_line_size) (C := RX2) (T := TX2) (N := 2) hx hb hts iX2 hown hK.1 hP 1 rfl rfl 1 (Nat.le_of_ble_eq_true rfl) k1 (fun _ h9 => h9) rfl dX1_placeToStand_4 ?_
  refine lv_istore_n (lv' := [(3, .int t_line_size), (0, .ref q_t), (1, .ref q_plan), (2, .int p_p)]) hx hb dX1_placeToStand_7 rfl hl (Nat.le_of_ble_eq_true rfl) rfl (fun ls hl => ?_)
  refine lv_aload_n hx hb dX1_placeToStand_8 rfl (lv_at hl 2 rfl) ?_
  refine va_get (ci := 3) (v := .ref q_plan_kinds) (C := RX3) (T := TX3) (N := 7) hx hb hts iX3 hown hK.1 hP 3 rfl rfl 3 (Nat.le_of_ble_eq_true rfl) k2 (fun _ h9 => h9) rfl dX1_placeToStand_9 ?_
  refine lv_iload_n hx hb dX1_placeToStand_12 rfl (lv_at hl 3 rfl) ?_
  obtain ⟨h1, hM⟩ := o_ck hM
  refine va_iald hx hb hK.1 hP 4 0 rfl rfl h1 dX1_placeToStand_13 ?_
  refine lv_iconst (v := 1) hx hb dX1_placeToStand_14 (by decide) ?_
  refine lv_icmp_ne (tgt := 26) hx hb dX1_placeToStand_15 (by decide) (fun c2 => ?_) (fun c2 => ?_)
  · have hM := (o_if hM).2 c2
    refine lv_aload_n hx hb dX1_placeToStand_26 rfl (lv_at hl 2 rfl) ?_
    refine va_get (ci := 3) (v := .ref q_plan_kinds) (C := RX3) (T := TX3) (N := 7) hx hb hts iX3 hown hK.1 hP 3 rfl rfl 3 (Nat.le_of_ble_eq_true rfl) k2 (fun _ h9 => h9) rfl dX1_placeToStand_27 ?_
    refine lv_iload_n hx hb dX1_placeToStand_30 rfl (lv_at hl 3 rfl) ?_
    obtain ⟨h3, hM⟩ := o_ck hM
    refine va_iald hx hb hK.1 hP 4 0 rfl rfl h3 dX1_placeToStand_31 ?_
    refine lv_iconst (v := 2) hx hb dX1_placeToStand_32 (by decide) ?_
    refine lv_icmp_eq (tgt := 38) hx hb dX1_placeToStand_33 (by decide) (fun c4 => ?_) (fun c4 => ?_)
    · have hM := (o_if hM).1 c4
      refine lv_iconst (v := 0) hx hb dX1_placeToStand_38 (by decide) ?_
      refine lv_istore (lv' := [(4, .int 0), (3, .int t_line_size), (0, .ref q_t), (1, .ref q_plan), (2, .int p_p)]) hx hb dX1_placeToStand_39 hl (Nat.le_of_ble_eq_true rfl) rfl (fun ls hl => ?_)
      exact J41 t_line_size 0 hM _ _ hP hD hS _ (lv_sub hl [2, 3, 1, 0] rfl)
    · have hM := (o_if hM).2 c4
      refine lv_iload_n hx hb dX1_placeToStand_36 rfl (lv_at hl 0 rfl) ?_
      have hM := (Option.some.inj hM)
      subst hM
      exact rt_i hx hb hr hlocks hP hD hS dX1_placeToStand_37
  · have hM := (o_if hM).1 c2
    refine lv_iload_n hx hb dX1_placeToStand_18 rfl (lv_at hl 0 rfl) ?_
    refine lv_iconst (v := 1) hx hb dX1_placeToStand_19 (by decide) ?_
    refine lv_isub hx hb dX1_placeToStand_20 ?_
    refine lv_iconst (v := 0) hx hb dX1_placeToStand_21 (by decide) ?_
    refine va_mmax hx hb (by rw [hml]; exact hl.1.symm) hown k3 k4 k5 k6 (Nat.le_of_ble_eq_true rfl) (Nat.le_of_ble_eq_true rfl) (Nat.zero_le _) (Nat.zero_le _) dX1_placeToStand_22 ?_
    have hM := (Option.some.inj hM)
    subst hM
    exact rt_i hx hb hr hlocks hP hD hS dX1_placeToStand_25
/-! ===== TurnQueue$Counter.letCome ===== -/
abbrev w_Co_letCome (cI cJ cS : ClassId) (q_t : Nat) (q_plan : Nat) (q_t_line : Nat) (q_t_servedAt : Nat) (q_t_line_row : Nat) (q_plan_kinds : Nat) (q_plan_comes : Nat) (q_plan_wants : Nat) (q_plan_outs : Nat) (t_serving : Int32) (t_awaited : Int32) (t_turnable : Int64) (t_doneAt : Int32) (t_line_size : Int32) (t_line_row : Nat → Int32) (plan_law : Int32) (plan_count : Int32) (plan_bells : Int64) (plan_kinds : Nat → Int32) (plan_comes : Nat → Int32) : va_W := [(q_t, .inr (1, [.ref q_t_line, .ref q_t_servedAt, .int t_serving, .int t_awaited, .long t_turnable, .int t_doneAt])), (q_t_line, .inr (2, [.ref q_t_line_row, .int t_line_size])), (q_t_line_row, ar cI 7 t_line_row), (q_plan, .inr (3, [.int plan_law, .int plan_count, .long plan_bells, .ref q_plan_kinds, .ref q_plan_comes, .ref q_plan_wants, .ref q_plan_outs])), (q_plan_kinds, ar cI 7 plan_kinds), (q_plan_comes, ar cI 7 plan_comes)]
abbrev rm_Co_letCome : Room := { frames := 2, cells := 0, slots := 0, locals := 45 }
noncomputable def Co_letCome_b3 (p_set : Int32) (p_minute : Int32) (plan_count : Int32) (plan_kinds : Nat → Int32) (plan_comes : Nat → Int32) (x4 : Int32) (t_line_size : Int32) (t_line_row : Nat → Int32) : Option ((Int32 × Int32 × (Nat → Int32)) ⊕ (Int32 × (Nat → Int32))) :=
  if plan_count ≤ x4 then
    some (.inr (t_line_size, t_line_row))
  else
    if ck x4 7 = true then
      if (plan_comes x4.toNatClampNeg) = p_minute then
        (Tq_hasPerson p_set x4).bind fun y5 =>
        if y5 = 0 then
          lt (x4 + 1) fun y8 =>
          some (.inl (y8, t_line_size, t_line_row))
        else
          (Co_placeToStand x4 t_line_size t_line_row plan_kinds).bind fun y9 =>
          (Li_insert y9 x4 t_line_size t_line_row).bind fun y11 =>
          lt (x4 + 1) fun y13 =>
          some (.inl (y13, y11.1, y11.2))
      else
        lt (x4 + 1) fun y4 =>
        some (.inl (y4, t_line_size, t_line_row))
    else none
noncomputable def Co_letCome_s3 (p_set : Int32) (p_minute : Int32) (plan_count : Int32) (plan_kinds : Nat → Int32) (plan_comes : Nat → Int32) : (Int32 × Int32 × (Nat → Int32)) → Option ((Int32 × Int32 × (Nat → Int32)) ⊕ (Int32 × (Nat → Int32))) := fun x => Co_letCome_b3 p_set p_minute plan_count plan_kinds plan_comes x.1 x.2.1 x.2.2
noncomputable def Co_letCome_l3 (p_set : Int32) (p_minute : Int32) (plan_count : Int32) (plan_kinds : Nat → Int32) (plan_comes : Nat → Int32) (x4 : Int32) (t_line_size : Int32) (t_line_row : Nat → Int32) : Option (Int32 × (Nat → Int32)) := fin (Co_letCome_s3 p_set p_minute plan_count plan_kinds plan_comes) (x4, t_line_size, t_line_row)
noncomputable def Co_letCome (p_set : Int32) (p_minute : Int32) (plan_count : Int32) (plan_kinds : Nat → Int32) (plan_comes : Nat → Int32) (t_line_size : Int32) (t_line_row : Nat → Int32) : Option (Int32 × (Nat → Int32)) :=
  Co_letCome_l3 p_set p_minute plan_count plan_kinds plan_comes 0 t_line_size t_line_row
theorem Co_letCome_l3_eq (p_set : Int32) (p_minute : Int32) (plan_count : Int32) (plan_kinds : Nat → Int32) (plan_comes : Nat → Int32) (x4 : Int32) (t_line_size : Int32) (t_line_row : Nat → Int32) : Co_letCome_l3 p_set p_minute plan_count plan_kinds plan_comes x4 t_line_size t_line_row = (Co_letCome_b3 p_set p_minute plan_count plan_kinds plan_comes x4 t_line_size t_line_row).bind (sg (fin (Co_letCome_s3 p_set p_minute plan_count plan_kinds plan_comes))) := by
  unfold Co_letCome_l3
  exact fin_eq _ _
theorem Co_letCome_l3_fd (p_set : Int32) (p_minute : Int32) (plan_count : Int32) (plan_kinds : Nat → Int32) (plan_comes : Nat → Int32) (x4 : Int32) (t_line_size : Int32) (t_line_row : Nat → Int32) : fin (Co_letCome_s3 p_set p_minute plan_count plan_kinds plan_comes) (x4, t_line_size, t_line_row) = Co_letCome_l3 p_set p_minute plan_count plan_kinds plan_comes x4 t_line_size t_line_row := rfl
set_option maxRecDepth 100000 in
set_option maxHeartbeats 4000000 in
theorem c_Co_letCome (l : Launch) (D : va_G) (cI cJ cS : ClassId) (q_t q_plan q_t_line q_t_servedAt q_t_line_row q_plan_kinds q_plan_comes q_plan_wants q_plan_outs : Nat) (t_serving : Int32) (t_awaited : Int32) (t_turnable : Int64) (t_doneAt : Int32) (t_line_size : Int32) (t_line_row : Nat → Int32) (plan_law : Int32) (plan_count : Int32) (plan_bells : Int64) (plan_kinds : Nat → Int32) (plan_comes : Nat → Int32) (p_set : Int32) (p_minute : Int32) (o : Int32 × (Nat → Int32)) (hM : Co_letCome p_set p_minute plan_count plan_kinds plan_comes t_line_size t_line_row = some o) : Cv l yX1_letCome wsX1_letCome rm_Co_letCome D cI cJ cS [.ref q_t, .ref q_plan, .int p_set, .int p_minute] (w_Co_letCome cI cJ cS q_t q_plan q_t_line q_t_servedAt q_t_line_row q_plan_kinds q_plan_comes q_plan_wants q_plan_outs t_serving t_awaited t_turnable t_doneAt t_line_size t_line_row plan_law plan_count plan_bells plan_kinds plan_comes) (w_Co_letCome cI cJ cS q_t q_plan q_t_line q_t_servedAt q_t_line_row q_plan_kinds q_plan_comes q_plan_wants q_plan_outs t_serving t_awaited t_turnable t_doneAt o.1 o.2 plan_law plan_count plan_bells plan_kinds plan_comes) := by
  refine Cv.of (cc := cX1_letCome) (maxL := 5) (ret := none) (by decide) rfl (Nat.le_of_ble_eq_true rfl) ?_
  intro p e s m args below meth c A ls hE
  obtain ⟨hx, hb, hr, hml, hown, hts, hlocks, hK, hA, hP, hD, hS, hl⟩ := hE
  have hown : s.vm.findClass RX1 = some m.cls := hown
  have hl : lv_has ls 5 [(0, .ref q_t), (1, .ref q_plan), (2, .int p_set), (3, .int p_minute)] := hl
  have iX3 : ∀ w ∈ u_ws RX3 TX3 7, w ∈ wsX1_letCome := by decide +kernel
  have iX1 : ∀ w ∈ u_ws RX1 TX1 6, w ∈ wsX1_letCome := by decide +kernel
  have k0 := hts (.fieldLink RX1 46 "TurnQueue$Plan" "count" "I") (by decide +kernel)
  have k1 := hts (.fieldLink RX1 49 "TurnQueue$Plan" "comes" "[I") (by decide +kernel)
  have k2 := hts (.initialized RX8) (by decide +kernel)
  have k3 := hts (.static yX8_hasPerson) (by decide +kernel)
  have k4 := hts (.fieldLink RX1 12 "TurnQueue$Counter" "line" "LTurnQueue$Line;") (by decide +kernel)
  have L3 : ∀ n : Nat, (∀ (x4 : Int32) (t_line_size : Int32) (t_line_row : Nat → Int32), itr (Co_letCome_s3 p_set p_minute plan_count plan_kinds plan_comes) n (x4, t_line_size, t_line_row) = some o → ∀ (H : Heap) (locs : List Loc), va_P D vwCl (w_Co_letCome cI cJ cS q_t q_plan q_t_line q_t_servedAt q_t_line_row q_plan_kinds q_plan_comes q_plan_wants q_plan_outs t_serving t_awaited t_turnable t_doneAt t_line_size t_line_row plan_law plan_count plan_bells plan_kinds plan_comes) H → va_D A (w_Co_letCome cI cJ cS q_t q_plan q_t_line q_t_servedAt q_t_line_row q_plan_kinds q_plan_comes q_plan_wants q_plan_outs t_serving t_awaited t_turnable t_doneAt t_line_size t_line_row plan_law plan_count plan_bells plan_kinds plan_comes) → va_S A s.heap H locs → ∀ ls : Array Slot, lv_has ls 5 [(0, .ref q_t), (1, .ref q_plan), (2, .int p_set), (3, .int p_minute), (4, .int x4)] → W p l e (headSpec wsX1_letCome rm_Co_letCome).room s m args below meth c H locs 0 0 (MQ below (CQv D (w_Co_letCome cI cJ cS q_t q_plan q_t_line q_t_servedAt q_t_line_row q_plan_kinds q_plan_comes q_plan_wants q_plan_outs t_serving t_awaited t_turnable t_doneAt o.1 o.2 plan_law plan_count plan_bells plan_kinds plan_comes) A) args s 0 0 A) (F0 m 3 ls [])) := by
    intro n
    induction n with
    | zero => exact fun _ _ _ hM => (itr_0 hM).elim
    | succ n ih =>
      intro x4 t_line_size t_line_row hM H locs hP hD hS ls hl
      have hM : (Co_letCome_b3 p_set p_minute plan_count plan_kinds plan_comes x4 t_line_size t_line_row).bind (sg (itr (Co_letCome_s3 p_set p_minute plan_count plan_kinds plan_comes) n)) = some o := hM
      unfold Co_letCome_b3 at hM
      refine lv_iload hx hb dX1_letCome_3 (lv_at hl 4 rfl) ?_
      refine lv_aload_n hx hb dX1_letCome_5 rfl (lv_at hl 1 rfl) ?_
      refine va_get (ci := 3) (v := .int plan_count) (C := RX3) (T := TX3) (N := 7) hx hb hts iX3 hown hK.1 hP 3 rfl rfl 1 (Nat.le_of_ble_eq_true rfl) k0 (fun _ h9 => h9) rfl dX1_letCome_6 ?_
      refine lv_icmp_ge (tgt := 54) hx hb dX1_letCome_9 (by decide) (fun c1 => ?_) (fun c1 => ?_)
      · have hM := (s_if hM).1 c1
        have hM := (Option.some.inj (s_rt hM))
        subst hM
        exact rt_v hx hb hr hlocks hP hD hS dX1_letCome_54
      · have hM := (s_if hM).2 c1
        refine lv_aload_n hx hb dX1_letCome_12 rfl (lv_at hl 1 rfl) ?_
        refine va_get (ci := 3) (v := .ref q_plan_comes) (C := RX3) (T := TX3) (N := 7) hx hb hts iX3 hown hK.1 hP 3 rfl rfl 4 (Nat.le_of_ble_eq_true rfl) k1 (fun _ h9 => h9) rfl dX1_letCome_13 ?_
        refine lv_iload hx hb dX1_letCome_16 (lv_at hl 4 rfl) ?_
        obtain ⟨h2, hM⟩ := s_ck hM
        refine va_iald hx hb hK.1 hP 5 0 rfl rfl h2 dX1_letCome_18 ?_
        refine lv_iload_n hx hb dX1_letCome_19 rfl (lv_at hl 3 rfl) ?_
        refine lv_icmp_ne (tgt := 48) hx hb dX1_letCome_20 (by decide) (fun c3 => ?_) (fun c3 => ?_)
        · have hM := (s_if hM).2 c3
          obtain ⟨y4, ey4⟩ : ∃ y : Int32, y = x4 + 1 := ⟨_, rfl⟩
          have hM := s_lt hM y4 ey4
          refine lv_iinc (v := y4) (lv' := [(4, .int y4), (0, .ref q_t), (1, .ref q_plan), (2, .int p_set), (3, .int p_minute)]) hx hb dX1_letCome_48 hl (k := 4) rfl (by rw [ey4]; rfl) (Nat.le_of_ble_eq_true rfl) rfl (fun ls hl => ?_)
          refine lv_goto (tgt := 3) hx hb dX1_letCome_51 (by decide) ?_
          exact ih y4 t_line_size t_line_row (s_jp hM) _ _ hP hD hS _ (lv_sub hl [1, 2, 3, 4, 0] rfl)
        · have hM := (s_if hM).1 c3
          refine lv_iload_n hx hb dX1_letCome_23 rfl (lv_at hl 2 rfl) ?_
          refine lv_iload hx hb dX1_letCome_24 (lv_at hl 4 rfl) ?_
          obtain ⟨y5, h6, hM⟩ := s_bd hM
          refine af_i (ws2 := (w_Co_letCome cI cJ cS q_t q_plan q_t_line q_t_servedAt q_t_line_row q_plan_kinds q_plan_comes q_plan_wants q_plan_outs t_serving t_awaited t_turnable t_doneAt t_line_size t_line_row plan_law plan_count plan_bells plan_kinds plan_comes)) (va_runSN (As := [.int p_set, .int x4]) (rest := []) ⟨hx, hb, hml, hown, hts⟩ (c_Tq_hasPerson l D cI cJ cS p_set x4 y5 h6 _) ⟨va_cnB 2 hts gX1_letCome_X8_hasPerson_n98 rfl rfl rfl hK.2.2.2.2.2.2.2.2.2.2.2.2.1 k2 (by decide +kernel) ⟨(Nat.le_of_ble_eq_true rfl), (Nat.le_of_ble_eq_true rfl)⟩, k3, trivial⟩ (pre_S hK hP hD [] rfl rfl) rfl rfl hl.1 rfl (lv_room (Nat.le_of_ble_eq_true rfl)) dX1_letCome_26 ⟨Nat.zero_le _, Nat.zero_le _⟩) hP hD hS hA [] [0, 1, 2, 3, 4, 5] [0, 1, 2, 3, 4, 5] rfl rfl rfl (by decide) rfl rfl (fun H locs hP hD hS => ?_)
          refine lv_if_eq (tgt := 48) hx hb dX1_letCome_29 (by decide) (fun c7 => ?_) (fun c7 => ?_)
          · have hM := (s_if hM).1 c7
            obtain ⟨y8, ey8⟩ : ∃ y : Int32, y = x4 + 1 := ⟨_, rfl⟩
            have hM := s_lt hM y8 ey8
            refine lv_iinc (v := y8) (lv' := [(4, .int y8), (0, .ref q_t), (1, .ref q_plan), (2, .int p_set), (3, .int p_minute)]) hx hb dX1_letCome_48 hl (k := 4) rfl (by rw [ey8]; rfl) (Nat.le_of_ble_eq_true rfl) rfl (fun ls hl => ?_)
            refine lv_goto (tgt := 3) hx hb dX1_letCome_51 (by decide) ?_
            exact ih y8 t_line_size t_line_row (s_jp hM) _ _ hP hD hS _ (lv_sub hl [1, 2, 3, 4, 0] rfl)
          · have hM := (s_if hM).2 c7
            refine lv_aload_n hx hb dX1_letCome_32 rfl (lv_at hl 0 rfl) ?_
            refine va_get (ci := 1) (v := .ref q_t_line) (C := RX1) (T := TX1) (N := 6) hx hb hts iX1 hown hK.1 hP 0 rfl rfl 0 (Nat.le_of_ble_eq_true rfl) k4 (fun _ h9 => h9) rfl dX1_letCome_33 ?_
            refine lv_aload_n hx hb dX1_letCome_36 rfl (lv_at hl 0 rfl) ?_
            refine lv_aload_n hx hb dX1_letCome_37 rfl (lv_at hl 1 rfl) ?_
            refine lv_iload hx hb dX1_letCome_38 (lv_at hl 4 rfl) ?_
            obtain ⟨y9, h10, hM⟩ := s_bd hM
            refine af_i (ws2 := (w_Co_letCome cI cJ cS q_t q_plan q_t_line q_t_servedAt q_t_line_row q_plan_kinds q_plan_comes q_plan_wants q_plan_outs t_serving t_awaited t_turnable t_doneAt t_line_size t_line_row plan_law plan_count plan_bells plan_kinds plan_comes)) (va_runV (As := [.ref q_plan, .int x4]) (rest := [.ref q_t_line]) ⟨hx, hb, hml, hown, hts⟩ (c_Co_placeToStand l D cI cJ cS q_t q_plan q_t_line q_t_servedAt q_t_line_row q_plan_kinds q_plan_comes q_plan_wants q_plan_outs t_serving t_awaited t_turnable t_doneAt t_line_size t_line_row plan_law plan_count plan_bells plan_kinds x4 y9 h10 _) (cwV 2 hts gX1_letCome_X1_placeToStand rfl rfl rfl (by decide +kernel) ⟨(Nat.le_of_ble_eq_true rfl), (Nat.le_of_ble_eq_true rfl)⟩) (pre_V hK hP hD [0, 1, 2, 3, 4] rfl rfl rfl rfl) rfl rfl hl.1 rfl (lv_room (Nat.le_of_ble_eq_true rfl)) dX1_letCome_40 ⟨Nat.zero_le _, Nat.zero_le _⟩) hP hD hS hA [0, 1, 2, 3, 4] [5] [1, 2, 3, 4, 5, 0] rfl rfl rfl (by decide) rfl rfl (fun H locs hP hD hS => ?_)
            refine lv_iload hx hb dX1_letCome_43 (lv_at hl 4 rfl) ?_
            obtain ⟨y11, h12, hM⟩ := s_bd hM
            refine af_v (ws2 := (w_Co_letCome cI cJ cS q_t q_plan q_t_line q_t_servedAt q_t_line_row q_plan_kinds q_plan_comes q_plan_wants q_plan_outs t_serving t_awaited t_turnable t_doneAt y11.1 y11.2 plan_law plan_count plan_bells plan_kinds plan_comes)) (va_runV (As := [.int y9, .int x4]) (rest := []) ⟨hx, hb, hml, hown, hts⟩ (c_Li_insert l D cI cJ cS q_t_line q_t_line_row t_line_size t_line_row y9 x4 y11 h12 _) (cwV 2 hts gX1_letCome_X2_insert rfl rfl rfl (by decide +kernel) ⟨(Nat.le_of_ble_eq_true rfl), (Nat.le_of_ble_eq_true rfl)⟩) (pre_V hK hP hD [1, 2] rfl rfl rfl rfl) rfl rfl hl.1 rfl (lv_room (Nat.le_of_ble_eq_true rfl)) dX1_letCome_45 ⟨Nat.zero_le _, Nat.zero_le _⟩) hP hD hS hA [1, 2] [0, 3, 4, 5] [0, 4, 5, 1, 2, 3] rfl rfl rfl (by decide) rfl rfl (fun H locs hP hD hS => ?_)
            obtain ⟨y13, ey13⟩ : ∃ y : Int32, y = x4 + 1 := ⟨_, rfl⟩
            have hM := s_lt hM y13 ey13
            refine lv_iinc (v := y13) (lv' := [(4, .int y13), (0, .ref q_t), (1, .ref q_plan), (2, .int p_set), (3, .int p_minute)]) hx hb dX1_letCome_48 hl (k := 4) rfl (by rw [ey13]; rfl) (Nat.le_of_ble_eq_true rfl) rfl (fun ls hl => ?_)
            refine lv_goto (tgt := 3) hx hb dX1_letCome_51 (by decide) ?_
            exact ih y13 y11.1 y11.2 (s_jp hM) _ _ hP hD hS _ (lv_sub hl [1, 2, 3, 4, 0] rfl)
  have J3 : ∀ (x4 : Int32) (t_line_size : Int32) (t_line_row : Nat → Int32), Co_letCome_l3 p_set p_minute plan_count plan_kinds plan_comes x4 t_line_size t_line_row = some o → ∀ (H : Heap) (locs : List Loc), va_P D vwCl (w_Co_letCome cI cJ cS q_t q_plan q_t_line q_t_servedAt q_t_line_row q_plan_kinds q_plan_comes q_plan_wants q_plan_outs t_serving t_awaited t_turnable t_doneAt t_line_size t_line_row plan_law plan_count plan_bells plan_kinds plan_comes) H → va_D A (w_Co_letCome cI cJ cS q_t q_plan q_t_line q_t_servedAt q_t_line_row q_plan_kinds q_plan_comes q_plan_wants q_plan_outs t_serving t_awaited t_turnable t_doneAt t_line_size t_line_row plan_law plan_count plan_bells plan_kinds plan_comes) → va_S A s.heap H locs → ∀ ls : Array Slot, lv_has ls 5 [(0, .ref q_t), (1, .ref q_plan), (2, .int p_set), (3, .int p_minute), (4, .int x4)] → W p l e (headSpec wsX1_letCome rm_Co_letCome).room s m args below meth c H locs 0 0 (MQ below (CQv D (w_Co_letCome cI cJ cS q_t q_plan q_t_line q_t_servedAt q_t_line_row q_plan_kinds q_plan_comes q_plan_wants q_plan_outs t_serving t_awaited t_turnable t_doneAt o.1 o.2 plan_law plan_count plan_bells plan_kinds plan_comes) A) args s 0 0 A) (F0 m 3 ls []) := by
    intro x4 t_line_size t_line_row hM
    unfold Co_letCome_l3 at hM
    obtain ⟨n0, hM⟩ := fin_some hM
    exact (L3 n0) x4 t_line_size t_line_row hM
  unfold Co_letCome at hM
  refine lv_iconst (v := 0) hx hb dX1_letCome_0 (by decide) ?_
  refine lv_istore (lv' := [(4, .int 0), (0, .ref q_t), (1, .ref q_plan), (2, .int p_set), (3, .int p_minute)]) hx hb dX1_letCome_1 hl (Nat.le_of_ble_eq_true rfl) rfl (fun ls hl => ?_)
  exact J3 0 t_line_size t_line_row hM _ _ hP hD hS _ (lv_sub hl [1, 2, 3, 4, 0] rfl)
/-! ===== TurnQueue$Counter.serveFirst ===== -/
abbrev w_Co_serveFirst (cI cJ cS : ClassId) (q_t : Nat) (q_plan : Nat) (q_t_line : Nat) (q_t_servedAt : Nat) (q_t_line_row : Nat) (q_plan_kinds : Nat) (q_plan_comes : Nat) (q_plan_wants : Nat) (q_plan_outs : Nat) (t_serving : Int32) (t_awaited : Int32) (t_turnable : Int64) (t_doneAt : Int32) (t_line_size : Int32) (t_line_row : Nat → Int32) (t_servedAt : Nat → Int32) (plan_law : Int32) (plan_count : Int32) (plan_bells : Int64) (plan_wants : Nat → Int32) : va_W := [(q_t, .inr (1, [.ref q_t_line, .ref q_t_servedAt, .int t_serving, .int t_awaited, .long t_turnable, .int t_doneAt])), (q_t_line, .inr (2, [.ref q_t_line_row, .int t_line_size])), (q_t_line_row, ar cI 7 t_line_row), (q_t_servedAt, ar cI 7 t_servedAt), (q_plan, .inr (3, [.int plan_law, .int plan_count, .long plan_bells, .ref q_plan_kinds, .ref q_plan_comes, .ref q_plan_wants, .ref q_plan_outs])), (q_plan_wants, ar cI 7 plan_wants)]
abbrev rm_Co_serveFirst : Room := { frames := 1, cells := 0, slots := 0, locals := 23 }
noncomputable def Co_serveFirst (p_minute : Int32) (plan_wants : Nat → Int32) (t_serving : Int32) (t_awaited : Int32) (t_doneAt : Int32) (t_line_size : Int32) (t_line_row : Nat → Int32) (t_servedAt : Nat → Int32) : Option (Int32 × Int32 × Int32 × Int32 × (Nat → Int32) × (Nat → Int32)) :=
  (Li_remove 0 t_line_size t_line_row).bind fun y1 =>
  if y1.1 = (-9) then
    some (t_serving, t_awaited, t_doneAt, y1.2.1, y1.2.2, t_servedAt)
  else
    if ck y1.1 7 = true then
      if ck y1.1 7 = true then
        lt (p_minute + (plan_wants y1.1.toNatClampNeg)) fun y6 =>
        lt (t_awaited &&& (((1 : Int32) <<< (y1.1 &&& 31)) ^^^ (-1))) fun y7 =>
        some (y1.1, y7, y6, y1.2.1, y1.2.2, upd t_servedAt y1.1.toNatClampNeg p_minute)
      else none
    else none
set_option maxRecDepth 100000 in
set_option maxHeartbeats 4000000 in
theorem c_Co_serveFirst (l : Launch) (D : va_G) (cI cJ cS : ClassId) (q_t q_plan q_t_line q_t_servedAt q_t_line_row q_plan_kinds q_plan_comes q_plan_wants q_plan_outs : Nat) (t_serving : Int32) (t_awaited : Int32) (t_turnable : Int64) (t_doneAt : Int32) (t_line_size : Int32) (t_line_row : Nat → Int32) (t_servedAt : Nat → Int32) (plan_law : Int32) (plan_count : Int32) (plan_bells : Int64) (plan_wants : Nat → Int32) (p_minute : Int32) (o : Int32 × Int32 × Int32 × Int32 × (Nat → Int32) × (Nat → Int32)) (hM : Co_serveFirst p_minute plan_wants t_serving t_awaited t_doneAt t_line_size t_line_row t_servedAt = some o) : Cv l yX1_serveFirst wsX1_serveFirst rm_Co_serveFirst D cI cJ cS [.ref q_t, .ref q_plan, .int p_minute] (w_Co_serveFirst cI cJ cS q_t q_plan q_t_line q_t_servedAt q_t_line_row q_plan_kinds q_plan_comes q_plan_wants q_plan_outs t_serving t_awaited t_turnable t_doneAt t_line_size t_line_row t_servedAt plan_law plan_count plan_bells plan_wants) (w_Co_serveFirst cI cJ cS q_t q_plan q_t_line q_t_servedAt q_t_line_row q_plan_kinds q_plan_comes q_plan_wants q_plan_outs o.1 o.2.1 t_turnable o.2.2.1 o.2.2.2.1 o.2.2.2.2.1 o.2.2.2.2.2 plan_law plan_count plan_bells plan_wants) := by
  refine Cv.of (cc := cX1_serveFirst) (maxL := 4) (ret := none) (by decide) rfl (Nat.le_of_ble_eq_true rfl) ?_
  intro p e s m args below meth c A ls hE
  obtain ⟨hx, hb, hr, hml, hown, hts, hlocks, hK, hA, hP, hD, hS, hl⟩ := hE
  have hown : s.vm.findClass RX1 = some m.cls := hown
  have hl : lv_has ls 4 [(0, .ref q_t), (1, .ref q_plan), (2, .int p_minute)] := hl
  have iX1 : ∀ w ∈ u_ws RX1 TX1 6, w ∈ wsX1_serveFirst := by decide +kernel
  have iX3 : ∀ w ∈ u_ws RX3 TX3 7, w ∈ wsX1_serveFirst := by decide +kernel
  have k0 := hts (.fieldLink RX1 12 "TurnQueue$Counter" "line" "LTurnQueue$Line;") (by decide +kernel)
  have k1 := hts (.fieldLink RX1 22 "TurnQueue$Counter" "serving" "I") (by decide +kernel)
  have k2 := hts (.fieldLink RX1 18 "TurnQueue$Counter" "servedAt" "[I") (by decide +kernel)
  have k3 := hts (.fieldLink RX1 118 "TurnQueue$Plan" "wants" "[I") (by decide +kernel)
  have k4 := hts (.fieldLink RX1 33 "TurnQueue$Counter" "doneAt" "I") (by decide +kernel)
  have k5 := hts (.fieldLink RX1 26 "TurnQueue$Counter" "awaited" "I") (by decide +kernel)
  unfold Co_serveFirst at hM
  refine lv_aload_n hx hb dX1_serveFirst_0 rfl (lv_at hl 0 rfl) ?_
  refine va_get (ci := 1) (v := .ref q_t_line) (C := RX1) (T := TX1) (N := 6) hx hb hts iX1 hown hK.1 hP 0 rfl rfl 0 (Nat.le_of_ble_eq_true rfl) k0 (fun _ h9 => h9) rfl dX1_serveFirst_1 ?_
  refine lv_iconst (v := 0) hx hb dX1_serveFirst_4 (by decide) ?_
  obtain ⟨y1, h2, hM⟩ := o_bd hM
  refine af_i (ws2 := (w_Co_serveFirst cI cJ cS q_t q_plan q_t_line q_t_servedAt q_t_line_row q_plan_kinds q_plan_comes q_plan_wants q_plan_outs t_serving t_awaited t_turnable t_doneAt y1.2.1 y1.2.2 t_servedAt plan_law plan_count plan_bells plan_wants)) (va_runV (As := [.int 0]) (rest := []) ⟨hx, hb, hml, hown, hts⟩ (c_Li_remove l D cI cJ cS q_t_line q_t_line_row t_line_size t_line_row 0 y1 h2 _) (cwV 1 hts gX1_serveFirst_X2_remove rfl rfl rfl (by decide +kernel) ⟨(Nat.le_of_ble_eq_true rfl), (Nat.le_of_ble_eq_true rfl)⟩) (pre_V hK hP hD [1, 2] rfl rfl rfl rfl) rfl rfl hl.1 rfl (lv_room (Nat.le_of_ble_eq_true rfl)) dX1_serveFirst_5 ⟨Nat.zero_le _, Nat.zero_le _⟩) hP hD hS hA [1, 2] [0, 3, 4, 5] [0, 4, 5, 1, 2, 3] rfl rfl rfl (by decide) rfl rfl (fun H locs hP hD hS => ?_)
  refine lv_istore_n (lv' := [(3, .int y1.1), (0, .ref q_t), (1, .ref q_plan), (2, .int p_minute)]) hx hb dX1_serveFirst_8 rfl hl (Nat.le_of_ble_eq_true rfl) rfl (fun ls hl => ?_)
  refine lv_iload_n hx hb dX1_serveFirst_9 rfl (lv_at hl 0 rfl) ?_
  refine lv_bipush (v := (-9)) hx hb dX1_serveFirst_10 (by decide) ?_
  refine lv_icmp_ne (tgt := 16) hx hb dX1_serveFirst_12 (by decide) (fun c3 => ?_) (fun c3 => ?_)
  · have hM := (o_if hM).2 c3
    refine lv_aload_n hx hb dX1_serveFirst_16 rfl (lv_at hl 1 rfl) ?_
    refine lv_iload_n hx hb dX1_serveFirst_17 rfl (lv_at hl 0 rfl) ?_
    refine va_put (ci := 1) (v := .int y1.1) (ty := .int) (C := RX1) (T := TX1) (N := 6) hx hb hts iX1 tyX1 tyX1_ok nmX1 hown hK.1 hP hD hS 0 rfl rfl 2 (Nat.le_of_ble_eq_true rfl) k1 (fun _ h9 => h9) rfl (tyX1_ok 2 (Nat.le_of_ble_eq_true rfl)) rfl rfl (Nat.le_of_ble_eq_true rfl) dX1_serveFirst_18 (fun H locs hP hD hS => ?_)
    have hP : va_P D vwCl (w_Co_serveFirst cI cJ cS q_t q_plan q_t_line q_t_servedAt q_t_line_row q_plan_kinds q_plan_comes q_plan_wants q_plan_outs y1.1 t_awaited t_turnable t_doneAt y1.2.1 y1.2.2 t_servedAt plan_law plan_count plan_bells plan_wants) H := hP
    have hD : va_D A (w_Co_serveFirst cI cJ cS q_t q_plan q_t_line q_t_servedAt q_t_line_row q_plan_kinds q_plan_comes q_plan_wants q_plan_outs y1.1 t_awaited t_turnable t_doneAt y1.2.1 y1.2.2 t_servedAt plan_law plan_count plan_bells plan_wants) := hD
    refine lv_aload_n hx hb dX1_serveFirst_21 rfl (lv_at hl 1 rfl) ?_
    refine va_get (ci := 1) (v := .ref q_t_servedAt) (C := RX1) (T := TX1) (N := 6) hx hb hts iX1 hown hK.1 hP 0 rfl rfl 1 (Nat.le_of_ble_eq_true rfl) k2 (fun _ h9 => h9) rfl dX1_serveFirst_22 ?_
    refine lv_iload_n hx hb dX1_serveFirst_25 rfl (lv_at hl 0 rfl) ?_
    refine lv_iload_n hx hb dX1_serveFirst_26 rfl (lv_at hl 3 rfl) ?_
    obtain ⟨h4, hM⟩ := o_ck hM
    refine va_iast hx hb hK.1 hP hD hS 3 0 rfl rfl h4 dX1_serveFirst_27 (fun H locs hP hD hS => ?_)
    have hP : va_P D vwCl (w_Co_serveFirst cI cJ cS q_t q_plan q_t_line q_t_servedAt q_t_line_row q_plan_kinds q_plan_comes q_plan_wants q_plan_outs y1.1 t_awaited t_turnable t_doneAt y1.2.1 y1.2.2 (upd t_servedAt y1.1.toNatClampNeg p_minute) plan_law plan_count plan_bells plan_wants) H := hP
    have hD : va_D A (w_Co_serveFirst cI cJ cS q_t q_plan q_t_line q_t_servedAt q_t_line_row q_plan_kinds q_plan_comes q_plan_wants q_plan_outs y1.1 t_awaited t_turnable t_doneAt y1.2.1 y1.2.2 (upd t_servedAt y1.1.toNatClampNeg p_minute) plan_law plan_count plan_bells plan_wants) := hD
    refine lv_aload_n hx hb dX1_serveFirst_28 rfl (lv_at hl 1 rfl) ?_
    refine lv_iload_n hx hb dX1_serveFirst_29 rfl (lv_at hl 3 rfl) ?_
    refine lv_aload_n hx hb dX1_serveFirst_30 rfl (lv_at hl 2 rfl) ?_
    refine va_get (ci := 3) (v := .ref q_plan_wants) (C := RX3) (T := TX3) (N := 7) hx hb hts iX3 hown hK.1 hP 4 rfl rfl 5 (Nat.le_of_ble_eq_true rfl) k3 (fun _ h9 => h9) rfl dX1_serveFirst_31 ?_
    refine lv_iload_n hx hb dX1_serveFirst_34 rfl (lv_at hl 0 rfl) ?_
    obtain ⟨h5, hM⟩ := o_ck hM
    refine va_iald hx hb hK.1 hP 5 0 rfl rfl h5 dX1_serveFirst_35 ?_
    refine lv_iadd hx hb dX1_serveFirst_36 ?_
    refine lv_topi (fun y6 ey6 => ?_)
    have hM := o_lt hM y6 ey6
    refine va_put (ci := 1) (v := .int y6) (ty := .int) (C := RX1) (T := TX1) (N := 6) hx hb hts iX1 tyX1 tyX1_ok nmX1 hown hK.1 hP hD hS 0 rfl rfl 5 (Nat.le_of_ble_eq_true rfl) k4 (fun _ h9 => h9) rfl (tyX1_ok 5 (Nat.le_of_ble_eq_true rfl)) rfl rfl (Nat.le_of_ble_eq_true rfl) dX1_serveFirst_37 (fun H locs hP hD hS => ?_)
    have hP : va_P D vwCl (w_Co_serveFirst cI cJ cS q_t q_plan q_t_line q_t_servedAt q_t_line_row q_plan_kinds q_plan_comes q_plan_wants q_plan_outs y1.1 t_awaited t_turnable y6 y1.2.1 y1.2.2 (upd t_servedAt y1.1.toNatClampNeg p_minute) plan_law plan_count plan_bells plan_wants) H := hP
    have hD : va_D A (w_Co_serveFirst cI cJ cS q_t q_plan q_t_line q_t_servedAt q_t_line_row q_plan_kinds q_plan_comes q_plan_wants q_plan_outs y1.1 t_awaited t_turnable y6 y1.2.1 y1.2.2 (upd t_servedAt y1.1.toNatClampNeg p_minute) plan_law plan_count plan_bells plan_wants) := hD
    refine lv_aload_n hx hb dX1_serveFirst_40 rfl (lv_at hl 1 rfl) ?_
    refine lv_dup hx hb dX1_serveFirst_41 rfl ?_
    refine va_get (ci := 1) (v := .int t_awaited) (C := RX1) (T := TX1) (N := 6) hx hb hts iX1 hown hK.1 hP 0 rfl rfl 3 (Nat.le_of_ble_eq_true rfl) k5 (fun _ h9 => h9) rfl dX1_serveFirst_42 ?_
    refine lv_iconst (v := 1) hx hb dX1_serveFirst_45 (by decide) ?_
    refine lv_iload_n hx hb dX1_serveFirst_46 rfl (lv_at hl 0 rfl) ?_
    refine lv_ishl hx hb dX1_serveFirst_47 ?_
    refine lv_iconst (v := (-1)) hx hb dX1_serveFirst_48 (by decide) ?_
    refine lv_ixor hx hb dX1_serveFirst_49 ?_
    refine lv_iand hx hb dX1_serveFirst_50 ?_
    refine lv_topi (fun y7 ey7 => ?_)
    have hM := o_lt hM y7 ey7
    refine va_put (ci := 1) (v := .int y7) (ty := .int) (C := RX1) (T := TX1) (N := 6) hx hb hts iX1 tyX1 tyX1_ok nmX1 hown hK.1 hP hD hS 0 rfl rfl 3 (Nat.le_of_ble_eq_true rfl) k5 (fun _ h9 => h9) rfl (tyX1_ok 3 (Nat.le_of_ble_eq_true rfl)) rfl rfl (Nat.le_of_ble_eq_true rfl) dX1_serveFirst_51 (fun H locs hP hD hS => ?_)
    have hP : va_P D vwCl (w_Co_serveFirst cI cJ cS q_t q_plan q_t_line q_t_servedAt q_t_line_row q_plan_kinds q_plan_comes q_plan_wants q_plan_outs y1.1 y7 t_turnable y6 y1.2.1 y1.2.2 (upd t_servedAt y1.1.toNatClampNeg p_minute) plan_law plan_count plan_bells plan_wants) H := hP
    have hD : va_D A (w_Co_serveFirst cI cJ cS q_t q_plan q_t_line q_t_servedAt q_t_line_row q_plan_kinds q_plan_comes q_plan_wants q_plan_outs y1.1 y7 t_turnable y6 y1.2.1 y1.2.2 (upd t_servedAt y1.1.toNatClampNeg p_minute) plan_law plan_count plan_bells plan_wants) := hD
    have hM := (Option.some.inj hM)
    subst hM
    exact rt_v hx hb hr hlocks hP hD hS dX1_serveFirst_54
  · have hM := (o_if hM).1 c3
    have hM := (Option.some.inj hM)
    subst hM
    exact rt_v hx hb hr hlocks hP hD hS dX1_serveFirst_15
/-! ===== TurnQueue$Counter.run ===== -/
abbrev w_Co_run (cI cJ cS : ClassId) (q_t : Nat) (q_plan : Nat) (q_t_line : Nat) (q_t_servedAt : Nat) (q_t_line_row : Nat) (q_plan_kinds : Nat) (q_plan_comes : Nat) (q_plan_wants : Nat) (q_plan_outs : Nat) (t_serving : Int32) (t_awaited : Int32) (t_turnable : Int64) (t_doneAt : Int32) (t_line_size : Int32) (t_line_row : Nat → Int32) (t_servedAt : Nat → Int32) (plan_law : Int32) (plan_count : Int32) (plan_bells : Int64) (plan_kinds : Nat → Int32) (plan_comes : Nat → Int32) (plan_wants : Nat → Int32) (plan_outs : Nat → Int32) : va_W := [(q_t, .inr (1, [.ref q_t_line, .ref q_t_servedAt, .int t_serving, .int t_awaited, .long t_turnable, .int t_doneAt])), (q_t_line, .inr (2, [.ref q_t_line_row, .int t_line_size])), (q_t_line_row, ar cI 7 t_line_row), (q_t_servedAt, ar cI 7 t_servedAt), (q_plan, .inr (3, [.int plan_law, .int plan_count, .long plan_bells, .ref q_plan_kinds, .ref q_plan_comes, .ref q_plan_wants, .ref q_plan_outs])), (q_plan_kinds, ar cI 7 plan_kinds), (q_plan_comes, ar cI 7 plan_comes), (q_plan_wants, ar cI 7 plan_wants), (q_plan_outs, ar cI 7 plan_outs)]
abbrev rm_Co_run : Room := { frames := 3, cells := 0, slots := 0, locals := 69 }
noncomputable def Co_run_j141 (p_set : Int32) (p_toFind : Int32) (p_last : Int32) (plan_law : Int32) (plan_count : Int32) (plan_bells : Int64) (plan_kinds : Nat → Int32) (plan_comes : Nat → Int32) (plan_wants : Nat → Int32) (plan_outs : Nat → Int32) (x5 : Int64) (x7 : Int32) (t_serving : Int32) (t_awaited : Int32) (t_turnable : Int64) (t_doneAt : Int32) (t_line_size : Int32) (t_line_row : Nat → Int32) (t_servedAt : Nat → Int32) : Option ((Int64 × Int32 × Int32 × Int32 × Int64 × Int32 × Int32 × (Nat → Int32) × (Nat → Int32)) ⊕ (Int32 × Int32 × Int64 × Int32 × Int32 × (Nat → Int32) × (Nat → Int32))) :=
  if t_serving = (-9) then
    (Co_serveFirst x7 plan_wants t_serving t_awaited t_doneAt t_line_size t_line_row t_servedAt).bind fun y12 =>
    lt (x7 + 1) fun y14 =>
    some (.inl (x5, y14, y12.1, y12.2.1, t_turnable, y12.2.2.1, y12.2.2.2.1, y12.2.2.2.2.1, y12.2.2.2.2.2))
  else
    lt (x7 + 1) fun y11 =>
    some (.inl (x5, y11, t_serving, t_awaited, t_turnable, t_doneAt, t_line_size, t_line_row, t_servedAt))
noncomputable def Co_run_j87 (p_set : Int32) (p_toFind : Int32) (p_last : Int32) (plan_law : Int32) (plan_count : Int32) (plan_bells : Int64) (plan_kinds : Nat → Int32) (plan_comes : Nat → Int32) (plan_wants : Nat → Int32) (plan_outs : Nat → Int32) (x5 : Int64) (x7 : Int32) (t_serving : Int32) (t_awaited : Int32) (t_turnable : Int64) (t_doneAt : Int32) (t_line_size : Int32) (t_line_row : Nat → Int32) (t_servedAt : Nat → Int32) : Option ((Int64 × Int32 × Int32 × Int32 × Int64 × Int32 × Int32 × (Nat → Int32) × (Nat → Int32)) ⊕ (Int32 × Int32 × Int64 × Int32 × Int32 × (Nat → Int32) × (Nat → Int32))) :=
  if t_line_size ≤ 1 then
    Co_run_j141 p_set p_toFind p_last plan_law plan_count plan_bells plan_kinds plan_comes plan_wants plan_outs x5 x7 t_serving t_awaited t_turnable t_doneAt t_line_size t_line_row t_servedAt
  else
    if 60 ≤ x7 then
      Co_run_j141 p_set p_toFind p_last plan_law plan_count plan_bells plan_kinds plan_comes plan_wants plan_outs x5 x7 t_serving t_awaited t_turnable t_doneAt t_line_size t_line_row t_servedAt
    else
      lt (t_turnable ||| ((1 : Int64) <<< (x7.toInt64 &&& 63))) fun y16 =>
      (Tq_hasMinute plan_bells x7).bind fun y17 =>
      if y17 = 0 then
        Co_run_j141 p_set p_toFind p_last plan_law plan_count plan_bells plan_kinds plan_comes plan_wants plan_outs x5 x7 t_serving t_awaited y16 t_doneAt t_line_size t_line_row t_servedAt
      else
        (Li_turn plan_law t_line_size t_line_row).bind fun y20 =>
        Co_run_j141 p_set p_toFind p_last plan_law plan_count plan_bells plan_kinds plan_comes plan_wants plan_outs x5 x7 t_serving t_awaited y16 t_doneAt y20.1 y20.2 t_servedAt
noncomputable def Co_run_j62 (p_set : Int32) (p_toFind : Int32) (p_last : Int32) (plan_law : Int32) (plan_count : Int32) (plan_bells : Int64) (plan_kinds : Nat → Int32) (plan_comes : Nat → Int32) (plan_wants : Nat → Int32) (plan_outs : Nat → Int32) (x5 : Int64) (x7 : Int32) (t_serving : Int32) (t_awaited : Int32) (t_turnable : Int64) (t_doneAt : Int32) (t_line_size : Int32) (t_line_row : Nat → Int32) (t_servedAt : Nat → Int32) : Option ((Int64 × Int32 × Int32 × Int32 × Int64 × Int32 × Int32 × (Nat → Int32) × (Nat → Int32)) ⊕ (Int32 × Int32 × Int64 × Int32 × Int32 × (Nat → Int32) × (Nat → Int32))) :=
  (Tq_hasMinute x5 x7).bind fun y6 =>
  if y6 = 0 then
    Co_run_j87 p_set p_toFind p_last plan_law plan_count plan_bells plan_kinds plan_comes plan_wants plan_outs x5 x7 t_serving t_awaited t_turnable t_doneAt t_line_size t_line_row t_servedAt
  else
    (Co_letRunOut x7 plan_count plan_outs t_line_size t_line_row).bind fun y22 =>
    (Co_letCome p_set x7 plan_count plan_kinds plan_comes y22.1 y22.2).bind fun y24 =>
    Co_run_j87 p_set p_toFind p_last plan_law plan_count plan_bells plan_kinds plan_comes plan_wants plan_outs x5 x7 t_serving t_awaited t_turnable t_doneAt y24.1 y24.2 t_servedAt
noncomputable def Co_run_b33 (p_set : Int32) (p_toFind : Int32) (p_last : Int32) (plan_law : Int32) (plan_count : Int32) (plan_bells : Int64) (plan_kinds : Nat → Int32) (plan_comes : Nat → Int32) (plan_wants : Nat → Int32) (plan_outs : Nat → Int32) (x5 : Int64) (x7 : Int32) (t_serving : Int32) (t_awaited : Int32) (t_turnable : Int64) (t_doneAt : Int32) (t_line_size : Int32) (t_line_row : Nat → Int32) (t_servedAt : Nat → Int32) : Option ((Int64 × Int32 × Int32 × Int32 × Int64 × Int32 × Int32 × (Nat → Int32) × (Nat → Int32)) ⊕ (Int32 × Int32 × Int64 × Int32 × Int32 × (Nat → Int32) × (Nat → Int32))) :=
  if p_last < x7 then
    some (.inr (t_serving, t_awaited, t_turnable, t_doneAt, t_line_size, t_line_row, t_servedAt))
  else
    if t_awaited = 0 then
      some (.inr (t_serving, t_awaited, t_turnable, t_doneAt, t_line_size, t_line_row, t_servedAt))
    else
      if x7 = t_doneAt then
        Co_run_j62 p_set p_toFind p_last plan_law plan_count plan_bells plan_kinds plan_comes plan_wants plan_outs x5 x7 (-9) t_awaited t_turnable t_doneAt t_line_size t_line_row t_servedAt
      else
        Co_run_j62 p_set p_toFind p_last plan_law plan_count plan_bells plan_kinds plan_comes plan_wants plan_outs x5 x7 t_serving t_awaited t_turnable t_doneAt t_line_size t_line_row t_servedAt
noncomputable def Co_run_s33 (p_set : Int32) (p_toFind : Int32) (p_last : Int32) (plan_law : Int32) (plan_count : Int32) (plan_bells : Int64) (plan_kinds : Nat → Int32) (plan_comes : Nat → Int32) (plan_wants : Nat → Int32) (plan_outs : Nat → Int32) : (Int64 × Int32 × Int32 × Int32 × Int64 × Int32 × Int32 × (Nat → Int32) × (Nat → Int32)) → Option ((Int64 × Int32 × Int32 × Int32 × Int64 × Int32 × Int32 × (Nat → Int32) × (Nat → Int32)) ⊕ (Int32 × Int32 × Int64 × Int32 × Int32 × (Nat → Int32) × (Nat → Int32))) := fun x => Co_run_b33 p_set p_toFind p_last plan_law plan_count plan_bells plan_kinds plan_comes plan_wants plan_outs x.1 x.2.1 x.2.2.1 x.2.2.2.1 x.2.2.2.2.1 x.2.2.2.2.2.1 x.2.2.2.2.2.2.1 x.2.2.2.2.2.2.2.1 x.2.2.2.2.2.2.2.2
noncomputable def Co_run_l33 (p_set : Int32) (p_toFind : Int32) (p_last : Int32) (plan_law : Int32) (plan_count : Int32) (plan_bells : Int64) (plan_kinds : Nat → Int32) (plan_comes : Nat → Int32) (plan_wants : Nat → Int32) (plan_outs : Nat → Int32) (x5 : Int64) (x7 : Int32) (t_serving : Int32) (t_awaited : Int32) (t_turnable : Int64) (t_doneAt : Int32) (t_line_size : Int32) (t_line_row : Nat → Int32) (t_servedAt : Nat → Int32) : Option (Int32 × Int32 × Int64 × Int32 × Int32 × (Nat → Int32) × (Nat → Int32)) := fin (Co_run_s33 p_set p_toFind p_last plan_law plan_count plan_bells plan_kinds plan_comes plan_wants plan_outs) (x5, x7, t_serving, t_awaited, t_turnable, t_doneAt, t_line_size, t_line_row, t_servedAt)
noncomputable def Co_run (p_set : Int32) (p_toFind : Int32) (p_last : Int32) (plan_law : Int32) (plan_count : Int32) (plan_bells : Int64) (plan_kinds : Nat → Int32) (plan_comes : Nat → Int32) (plan_wants : Nat → Int32) (plan_outs : Nat → Int32) (t_serving : Int32) (t_awaited : Int32) (t_turnable : Int64) (t_doneAt : Int32) (t_line_size : Int32) (t_line_row : Nat → Int32) (t_servedAt : Nat → Int32) : Option (Int32 × Int32 × Int64 × Int32 × Int32 × (Nat → Int32) × (Nat → Int32)) :=
  (Co_movesOf plan_count plan_comes plan_outs).bind fun y1 =>
  Co_run_l33 p_set p_toFind p_last plan_law plan_count plan_bells plan_kinds plan_comes plan_wants plan_outs y1 0 (-9) p_toFind 0 t_doneAt 0 t_line_row t_servedAt
theorem Co_run_l33_eq (p_set : Int32) (p_toFind : Int32) (p_last : Int32) (plan_law : Int32) (plan_count : Int32) (plan_bells : Int64) (plan_kinds : Nat → Int32) (plan_comes : Nat → Int32) (plan_wants : Nat → Int32) (plan_outs : Nat → Int32) (x5 : Int64) (x7 : Int32) (t_serving : Int32) (t_awaited : Int32) (t_turnable : Int64) (t_doneAt : Int32) (t_line_size : Int32) (t_line_row : Nat → Int32) (t_servedAt : Nat → Int32) : Co_run_l33 p_set p_toFind p_last plan_law plan_count plan_bells plan_kinds plan_comes plan_wants plan_outs x5 x7 t_serving t_awaited t_turnable t_doneAt t_line_size t_line_row t_servedAt = (Co_run_b33 p_set p_toFind p_last plan_law plan_count plan_bells plan_kinds plan_comes plan_wants plan_outs x5 x7 t_serving t_awaited t_turnable t_doneAt t_line_size t_line_row t_servedAt).bind (sg (fin (Co_run_s33 p_set p_toFind p_last plan_law plan_count plan_bells plan_kinds plan_comes plan_wants plan_outs))) := by
  unfold Co_run_l33
  exact fin_eq _ _
theorem Co_run_l33_fd (p_set : Int32) (p_toFind : Int32) (p_last : Int32) (plan_law : Int32) (plan_count : Int32) (plan_bells : Int64) (plan_kinds : Nat → Int32) (plan_comes : Nat → Int32) (plan_wants : Nat → Int32) (plan_outs : Nat → Int32) (x5 : Int64) (x7 : Int32) (t_serving : Int32) (t_awaited : Int32) (t_turnable : Int64) (t_doneAt : Int32) (t_line_size : Int32) (t_line_row : Nat → Int32) (t_servedAt : Nat → Int32) : fin (Co_run_s33 p_set p_toFind p_last plan_law plan_count plan_bells plan_kinds plan_comes plan_wants plan_outs) (x5, x7, t_serving, t_awaited, t_turnable, t_doneAt, t_line_size, t_line_row, t_servedAt) = Co_run_l33 p_set p_toFind p_last plan_law plan_count plan_bells plan_kinds plan_comes plan_wants plan_outs x5 x7 t_serving t_awaited t_turnable t_doneAt t_line_size t_line_row t_servedAt := rfl
set_option maxRecDepth 100000 in
set_option maxHeartbeats 4000000 in
theorem c_Co_run (l : Launch) (D : va_G) (cI cJ cS : ClassId) (q_t q_plan q_t_line q_t_servedAt q_t_line_row q_plan_kinds q_plan_comes q_plan_wants q_plan_outs : Nat) (t_serving : Int32) (t_awaited : Int32) (t_turnable : Int64) (t_doneAt : Int32) (t_line_size : Int32) (t_line_row : Nat → Int32) (t_servedAt : Nat → Int32) (plan_law : Int32) (plan_count : Int32) (plan_bells : Int64) (plan_kinds : Nat → Int32) (plan_comes : Nat → Int32) (plan_wants : Nat → Int32) (plan_outs : Nat → Int32) (p_set : Int32) (p_toFind : Int32) (p_last : Int32) (o : Int32 × Int32 × Int64 × Int32 × Int32 × (Nat → Int32) × (Nat → Int32)) (hM : Co_run p_set p_toFind p_last plan_law plan_count plan_bells plan_kinds plan_comes plan_wants plan_outs t_serving t_awaited t_turnable t_doneAt t_line_size t_line_row t_servedAt = some o) : Cv l yX1_run wsX1_run rm_Co_run D cI cJ cS [.ref q_t, .ref q_plan, .int p_set, .int p_toFind, .int p_last] (w_Co_run cI cJ cS q_t q_plan q_t_line q_t_servedAt q_t_line_row q_plan_kinds q_plan_comes q_plan_wants q_plan_outs t_serving t_awaited t_turnable t_doneAt t_line_size t_line_row t_servedAt plan_law plan_count plan_bells plan_kinds plan_comes plan_wants plan_outs) (w_Co_run cI cJ cS q_t q_plan q_t_line q_t_servedAt q_t_line_row q_plan_kinds q_plan_comes q_plan_wants q_plan_outs o.1 o.2.1 o.2.2.1 o.2.2.2.1 o.2.2.2.2.1 o.2.2.2.2.2.1 o.2.2.2.2.2.2 plan_law plan_count plan_bells plan_kinds plan_comes plan_wants plan_outs) := by
  refine Cv.of (cc := cX1_run) (maxL := 8) (ret := none) (by decide) rfl (Nat.le_of_ble_eq_true rfl) ?_
  intro p e s m args below meth c A ls hE
  obtain ⟨hx, hb, hr, hml, hown, hts, hlocks, hK, hA, hP, hD, hS, hl⟩ := hE
  have hown : s.vm.findClass RX1 = some m.cls := hown
  have hl : lv_has ls 8 [(0, .ref q_t), (1, .ref q_plan), (2, .int p_set), (3, .int p_toFind), (4, .int p_last)] := hl
  have iX1 : ∀ w ∈ u_ws RX1 TX1 6, w ∈ wsX1_run := by decide +kernel
  have iX2 : ∀ w ∈ u_ws RX2 TX2 2, w ∈ wsX1_run := by decide +kernel
  have iX3 : ∀ w ∈ u_ws RX3 TX3 7, w ∈ wsX1_run := by decide +kernel
  have k0 := hts (.fieldLink RX1 12 "TurnQueue$Counter" "line" "LTurnQueue$Line;") (by decide +kernel)
  have k1 := hts (.fieldLink RX1 52 "TurnQueue$Line" "size" "I") (by decide +kernel)
  have k2 := hts (.fieldLink RX1 22 "TurnQueue$Counter" "serving" "I") (by decide +kernel)
  have k3 := hts (.fieldLink RX1 26 "TurnQueue$Counter" "awaited" "I") (by decide +kernel)
  have k4 := hts (.fieldLink RX1 29 "TurnQueue$Counter" "turnable" "J") (by decide +kernel)
  have k5 := hts (.fieldLink RX1 33 "TurnQueue$Counter" "doneAt" "I") (by decide +kernel)
  have k6 := hts (.initialized RX8) (by decide +kernel)
  have k7 := hts (.static yX8_hasMinute) (by decide +kernel)
  have k8 := hts (.fieldLink RX1 71 "TurnQueue$Plan" "bells" "J") (by decide +kernel)
  have k9 := hts (.fieldLink RX1 74 "TurnQueue$Plan" "law" "I") (by decide +kernel)
  have L33 : ∀ n : Nat, (∀ (x5 : Int64) (x7 : Int32) (t_serving : Int32) (t_awaited : Int32) (t_turnable : Int64) (t_doneAt : Int32) (t_line_size : Int32) (t_line_row : Nat → Int32) (t_servedAt : Nat → Int32), itr (Co_run_s33 p_set p_toFind p_last plan_law plan_count plan_bells plan_kinds plan_comes plan_wants plan_outs) n (x5, x7, t_serving, t_awaited, t_turnable, t_doneAt, t_line_size, t_line_row, t_servedAt) = some o → ∀ (H : Heap) (locs : List Loc), va_P D vwCl (w_Co_run cI cJ cS q_t q_plan q_t_line q_t_servedAt q_t_line_row q_plan_kinds q_plan_comes q_plan_wants q_plan_outs t_serving t_awaited t_turnable t_doneAt t_line_size t_line_row t_servedAt plan_law plan_count plan_bells plan_kinds plan_comes plan_wants plan_outs) H → va_D A (w_Co_run cI cJ cS q_t q_plan q_t_line q_t_servedAt q_t_line_row q_plan_kinds q_plan_comes q_plan_wants q_plan_outs t_serving t_awaited t_turnable t_doneAt t_line_size t_line_row t_servedAt plan_law plan_count plan_bells plan_kinds plan_comes plan_wants plan_outs) → va_S A s.heap H locs → ∀ ls : Array Slot, lv_has ls 8 [(0, .ref q_t), (1, .ref q_plan), (2, .int p_set), (4, .int p_last), (5, .long x5), (7, .int x7)] → W p l e (headSpec wsX1_run rm_Co_run).room s m args below meth c H locs 0 0 (MQ below (CQv D (w_Co_run cI cJ cS q_t q_plan q_t_line q_t_servedAt q_t_line_row q_plan_kinds q_plan_comes q_plan_wants q_plan_outs o.1 o.2.1 o.2.2.1 o.2.2.2.1 o.2.2.2.2.1 o.2.2.2.2.2.1 o.2.2.2.2.2.2 plan_law plan_count plan_bells plan_kinds plan_comes plan_wants plan_outs) A) args s 0 0 A) (F0 m 33 ls [])) := by
    intro n
    induction n with
    | zero => exact fun _ _ _ _ _ _ _ _ _ hM => (itr_0 hM).elim
    | succ n ih =>
      have J141 : ∀ (x5 : Int64) (x7 : Int32) (t_serving : Int32) (t_awaited : Int32) (t_turnable : Int64) (t_doneAt : Int32) (t_line_size : Int32) (t_line_row : Nat → Int32) (t_servedAt : Nat → Int32), (Co_run_j141 p_set p_toFind p_last plan_law plan_count plan_bells plan_kinds plan_comes plan_wants plan_outs x5 x7 t_serving t_awaited t_turnable t_doneAt t_line_size t_line_row t_servedAt).bind (sg (itr (Co_run_s33 p_set p_toFind p_last plan_law plan_count plan_bells plan_kinds plan_comes plan_wants plan_outs) n)) = some o → ∀ (H : Heap) (locs : List Loc), va_P D vwCl (w_Co_run cI cJ cS q_t q_plan q_t_line q_t_servedAt q_t_line_row q_plan_kinds q_plan_comes q_plan_wants q_plan_outs t_serving t_awaited t_turnable t_doneAt t_line_size t_line_row t_servedAt plan_law plan_count plan_bells plan_kinds plan_comes plan_wants plan_outs) H → va_D A (w_Co_run cI cJ cS q_t q_plan q_t_line q_t_servedAt q_t_line_row q_plan_kinds q_plan_comes q_plan_wants q_plan_outs t_serving t_awaited t_turnable t_doneAt t_line_size t_line_row t_servedAt plan_law plan_count plan_bells plan_kinds plan_comes plan_wants plan_outs) → va_S A s.heap H locs → ∀ ls : Array Slot, lv_has ls 8 [(0, .ref q_t), (1, .ref q_plan), (2, .int p_set), (4, .int p_last), (5, .long x5), (7, .int x7)] → W p l e (headSpec wsX1_run rm_Co_run).room s m args below meth c H locs 0 0 (MQ below (CQv D (w_Co_run cI cJ cS q_t q_plan q_t_line q_t_servedAt q_t_line_row q_plan_kinds q_plan_comes q_plan_wants q_plan_outs o.1 o.2.1 o.2.2.1 o.2.2.2.1 o.2.2.2.2.1 o.2.2.2.2.2.1 o.2.2.2.2.2.2 plan_law plan_count plan_bells plan_kinds plan_comes plan_wants plan_outs) A) args s 0 0 A) (F0 m 141 ls []) := by
        intro x5 x7 t_serving t_awaited t_turnable t_doneAt t_line_size t_line_row t_servedAt hM H locs hP hD hS ls hl
        unfold Co_run_j141 at hM
        refine lv_aload_n hx hb dX1_run_141 rfl (lv_at hl 0 rfl) ?_
        refine va_get (ci := 1) (v := .int t_serving) (C := RX1) (T := TX1) (N := 6) hx hb hts iX1 hown hK.1 hP 0 rfl rfl 2 (Nat.le_of_ble_eq_true rfl) k2 (fun _ h9 => h9) rfl dX1_run_142 ?_
        refine lv_bipush (v := (-9)) hx hb dX1_run_145 (by decide) ?_
        refine lv_icmp_ne (tgt := 157) hx hb dX1_run_147 (by decide) (fun c10 => ?_) (fun c10 => ?_)
        · have hM := (s_if hM).2 c10
          obtain ⟨y11, ey11⟩ : ∃ y : Int32, y = x7 + 1 := ⟨_, rfl⟩
          have hM := s_lt hM y11 ey11
          refine lv_iinc (v := y11) (lv' := [(7, .int y11), (0, .ref q_t), (1, .ref q_plan), (2, .int p_set), (4, .int p_last), (5, .long x5)]) hx hb dX1_run_157 hl (k := 5) rfl (by rw [ey11]; rfl) (Nat.le_of_ble_eq_true rfl) rfl (fun ls hl => ?_)
          refine lv_goto (tgt := 33) hx hb dX1_run_160 (by decide) ?_
          exact ih x5 y11 t_serving t_awaited t_turnable t_doneAt t_line_size t_line_row t_servedAt (s_jp hM) _ _ hP hD hS _ (lv_sub hl [1, 2, 3, 4, 5, 0] rfl)
        · have hM := (s_if hM).1 c10
          refine lv_aload_n hx hb dX1_run_150 rfl (lv_at hl 0 rfl) ?_
          refine lv_aload_n hx hb dX1_run_151 rfl (lv_at hl 1 rfl) ?_
          refine lv_iload hx hb dX1_run_152 (lv_at hl 5 rfl) ?_
          obtain ⟨y12, h13, hM⟩ := s_bd hM
          refine af_v (ws2 := (w_Co_run cI cJ cS q_t q_plan q_t_line q_t_servedAt q_t_line_row q_plan_kinds q_plan_comes q_plan_wants q_plan_outs y12.1 y12.2.1 t_turnable y12.2.2.1 y12.2.2.2.1 y12.2.2.2.2.1 y12.2.2.2.2.2 plan_law plan_count plan_bells plan_kinds plan_comes plan_wants plan_outs)) (va_runV (As := [.ref q_plan, .int x7]) (rest := []) ⟨hx, hb, hml, hown, hts⟩ (c_Co_serveFirst l D cI cJ cS q_t q_plan q_t_line q_t_servedAt q_t_line_row q_plan_kinds q_plan_comes q_plan_wants q_plan_outs t_serving t_awaited t_turnable t_doneAt t_line_size t_line_row t_servedAt plan_law plan_count plan_bells plan_wants x7 y12 h13 _) (cwV 2 hts gX1_run_X1_serveFirst rfl rfl rfl (by decide +kernel) ⟨(Nat.le_of_ble_eq_true rfl), (Nat.le_of_ble_eq_true rfl)⟩) (pre_V hK hP hD [0, 1, 2, 3, 4, 7] rfl rfl rfl rfl) rfl rfl hl.1 rfl (lv_room (Nat.le_of_ble_eq_true rfl)) dX1_run_154 ⟨Nat.zero_le _, Nat.zero_le _⟩) hP hD hS hA [0, 1, 2, 3, 4, 7] [5, 6, 8] [3, 4, 5, 6, 7, 0, 1, 8, 2] rfl rfl rfl (by decide) rfl rfl (fun H locs hP hD hS => ?_)
          obtain ⟨y14, ey14⟩ : ∃ y : Int32, y = x7 + 1 := ⟨_, rfl⟩
          have hM := s_lt hM y14 ey14
          refine lv_iinc (v := y14) (lv' := [(7, .int y14), (0, .ref q_t), (1, .ref q_plan), (2, .int p_set), (4, .int p_last), (5, .long x5)]) hx hb dX1_run_157 hl (k := 5) rfl (by rw [ey14]; rfl) (Nat.le_of_ble_eq_true rfl) rfl (fun ls hl => ?_)
          refine lv_goto (tgt := 33) hx hb dX1_run_160 (by decide) ?_
          exact ih x5 y14 y12.1 y12.2.1 t_turnable y12.2.2.1 y12.2.2.2.1 y12.2.2.2.2.1 y12.2.2.2.2.2 (s_jp hM) _ _ hP hD hS _ (lv_sub hl [1, 2, 3, 4, 5, 0] rfl)
      have J87 : ∀ (x5 : Int64) (x7 : Int32) (t_serving : Int32) (t_awaited : Int32) (t_turnable : Int64) (t_doneAt : Int32) (t_line_size : Int32) (t_line_row : Nat → Int32) (t_servedAt : Nat → Int32), (Co_run_j87 p_set p_toFind p_last plan_law plan_count plan_bells plan_kinds plan_comes plan_wants plan_outs x5 x7 t_serving t_awaited t_turnable t_doneAt t_line_size t_line_row t_servedAt).bind (sg (itr (Co_run_s33 p_set p_toFind p_last plan_law plan_count plan_bells plan_kinds plan_comes plan_wants plan_outs) n)) = some o → ∀ (H : Heap) (locs : List Loc), va_P D vwCl (w_Co_run cI cJ cS q_t q_plan q_t_line q_t_servedAt q_t_line_row q_plan_kinds q_plan_comes q_plan_wants q_plan_outs t_serving t_awaited t_turnable t_doneAt t_line_size t_line_row t_servedAt plan_law plan_count plan_bells plan_kinds plan_comes plan_wants plan_outs) H → va_D A (w_Co_run cI cJ cS q_t q_plan q_t_line q_t_servedAt q_t_line_row q_plan_kinds q_plan_comes q_plan_wants q_plan_outs t_serving t_awaited t_turnable t_doneAt t_line_size t_line_row t_servedAt plan_law plan_count plan_bells plan_kinds plan_comes plan_wants plan_outs) → va_S A s.heap H locs → ∀ ls : Array Slot, lv_has ls 8 [(0, .ref q_t), (1, .ref q_plan), (2, .int p_set), (4, .int p_last), (5, .long x5), (7, .int x7)] → W p l e (headSpec wsX1_run rm_Co_run).room s m args below meth c H locs 0 0 (MQ below (CQv D (w_Co_run cI cJ cS q_t q_plan q_t_line q_t_servedAt q_t_line_row q_plan_kinds q_plan_comes q_plan_wants q_plan_outs o.1 o.2.1 o.2.2.1 o.2.2.2.1 o.2.2.2.2.1 o.2.2.2.2.2.1 o.2.2.2.2.2.2 plan_law plan_count plan_bells plan_kinds plan_comes plan_wants plan_outs) A) args s 0 0 A) (F0 m 87 ls []) := by
        intro x5 x7 t_serving t_awaited t_turnable t_doneAt t_line_size t_line_row t_servedAt hM H locs hP hD hS ls hl
        unfold Co_run_j87 at hM
        refine lv_aload_n hx hb dX1_run_87 rfl (lv_at hl 0 rfl) ?_
        refine va_get (ci := 1) (v := .ref q_t_line) (C := RX1) (T := TX1) (N := 6) hx hb hts iX1 hown hK.1 hP 0 rfl rfl 0 (Nat.le_of_ble_eq_true rfl) k0 (fun _ h9 => h9) rfl dX1_run_88 ?_
        refine va_get (ci := 2) (v := .int t_line_size) (C := RX2) (T := TX2) (N := 2) hx hb hts iX2 hown hK.1 hP 1 rfl rfl 1 (Nat.le_of_ble_eq_true rfl) k1 (fun _ h9 => h9) rfl dX1_run_91 ?_
        refine lv_iconst (v := 1) hx hb dX1_run_94 (by decide) ?_
        refine lv_icmp_le (tgt := 141) hx hb dX1_run_95 (by decide) (fun c9 => ?_) (fun c9 => ?_)
        · have hM := (s_if hM).1 c9
          exact J141 x5 x7 t_serving t_awaited t_turnable t_doneAt t_line_size t_line_row t_servedAt hM _ _ hP hD hS _ (lv_sub hl [0, 1, 2, 3, 4, 5] rfl)
        · have hM := (s_if hM).2 c9
          refine lv_iload hx hb dX1_run_98 (lv_at hl 5 rfl) ?_
          refine lv_bipush (v := 60) hx hb dX1_run_100 (by decide) ?_
          refine lv_icmp_ge (tgt := 141) hx hb dX1_run_102 (by decide) (fun c15 => ?_) (fun c15 => ?_)
          · have hM := (s_if hM).1 c15
            exact J141 x5 x7 t_serving t_awaited t_turnable t_doneAt t_line_size t_line_row t_servedAt hM _ _ hP hD hS _ (lv_sub hl [0, 1, 2, 3, 4, 5] rfl)
          · have hM := (s_if hM).2 c15
            refine lv_aload_n hx hb dX1_run_105 rfl (lv_at hl 0 rfl) ?_
            refine lv_dup hx hb dX1_run_106 rfl ?_
            refine va_get (ci := 1) (v := .long t_turnable) (C := RX1) (T := TX1) (N := 6) hx hb hts iX1 hown hK.1 hP 0 rfl rfl 4 (Nat.le_of_ble_eq_true rfl) k4 (fun _ h9 => h9) rfl dX1_run_107 ?_
            refine lv_lconst (v := 1) hx hb dX1_run_110 (by decide) ?_
            refine lv_iload hx hb dX1_run_111 (lv_at hl 5 rfl) ?_
            refine lv_lshl (v := (1 : Int64) <<< (x7.toInt64 &&& 63)) hx hb dX1_run_113 rfl ?_
            refine lv_lor hx hb dX1_run_114 ?_
            refine lv_topl (fun y16 ey16 => ?_)
            have hM := s_lt hM y16 ey16
            refine va_put (ci := 1) (v := .long y16) (ty := .long) (C := RX1) (T := TX1) (N := 6) hx hb hts iX1 tyX1 tyX1_ok nmX1 hown hK.1 hP hD hS 0 rfl rfl 4 (Nat.le_of_ble_eq_true rfl) k4 (fun _ h9 => h9) rfl (tyX1_ok 4 (Nat.le_of_ble_eq_true rfl)) rfl rfl (Nat.le_of_ble_eq_true rfl) dX1_run_115 (fun H locs hP hD hS => ?_)
            have hP : va_P D vwCl (w_Co_run cI cJ cS q_t q_plan q_t_line q_t_servedAt q_t_line_row q_plan_kinds q_plan_comes q_plan_wants q_plan_outs t_serving t_awaited y16 t_doneAt t_line_size t_line_row t_servedAt plan_law plan_count plan_bells plan_kinds plan_comes plan_wants plan_outs) H := hP
            have hD : va_D A (w_Co_run cI cJ cS q_t q_plan q_t_line q_t_servedAt q_t_line_row q_plan_kinds q_plan_comes q_plan_wants q_plan_outs t_serving t_awaited y16 t_doneAt t_line_size t_line_row t_servedAt plan_law plan_count plan_bells plan_kinds plan_comes plan_wants plan_outs) := hD
            refine lv_aload_n hx hb dX1_run_118 rfl (lv_at hl 1 rfl) ?_
            refine va_get (ci := 3) (v := .long plan_bells) (C := RX3) (T := TX3) (N := 7) hx hb hts iX3 hown hK.1 hP 4 rfl rfl 2 (Nat.le_of_ble_eq_true rfl) k8 (fun _ h9 => h9) rfl dX1_run_119 ?_
            refine lv_iload hx hb dX1_run_122 (lv_at hl 5 rfl) ?_
            obtain ⟨y17, h18, hM⟩ := s_bd hM
            refine af_i (ws2 := (w_Co_run cI cJ cS q_t q_plan q_t_line q_t_servedAt q_t_line_row q_plan_kinds q_plan_comes q_plan_wants q_plan_outs t_serving t_awaited y16 t_doneAt t_line_size t_line_row t_servedAt plan_law plan_count plan_bells plan_kinds plan_comes plan_wants plan_outs)) (va_runSN (As := [.long plan_bells, .int x7]) (rest := []) ⟨hx, hb, hml, hown, hts⟩ (c_Tq_hasMinute l D cI cJ cS plan_bells x7 y17 h18 _) ⟨va_cnB 2 hts gX1_run_X8_hasMinute_n59 rfl rfl rfl hK.2.2.2.2.2.2.2.2.2.2.2.1 k6 (by decide +kernel) ⟨(Nat.le_of_ble_eq_true rfl), (Nat.le_of_ble_eq_true rfl)⟩, k7, trivial⟩ (pre_S hK hP hD [] rfl rfl) rfl rfl hl.1 rfl (lv_room (Nat.le_of_ble_eq_true rfl)) dX1_run_124 ⟨Nat.zero_le _, Nat.zero_le _⟩) hP hD hS hA [] [0, 1, 2, 3, 4, 5, 6, 7, 8] [0, 1, 2, 3, 4, 5, 6, 7, 8] rfl rfl rfl (by decide) rfl rfl (fun H locs hP hD hS => ?_)
            refine lv_if_eq (tgt := 141) hx hb dX1_run_127 (by decide) (fun c19 => ?_) (fun c19 => ?_)
            · have hM := (s_if hM).1 c19
              exact J141 x5 x7 t_serving t_awaited y16 t_doneAt t_line_size t_line_row t_servedAt hM _ _ hP hD hS _ (lv_sub hl [0, 1, 2, 3, 4, 5] rfl)
            · have hM := (s_if hM).2 c19
              refine lv_aload_n hx hb dX1_run_130 rfl (lv_at hl 0 rfl) ?_
              refine va_get (ci := 1) (v := .ref q_t_line) (C := RX1) (T := TX1) (N := 6) hx hb hts iX1 hown hK.1 hP 0 rfl rfl 0 (Nat.le_of_ble_eq_true rfl) k0 (fun _ h9 => h9) rfl dX1_run_131 ?_
              refine lv_aload_n hx hb dX1_run_134 rfl (lv_at hl 1 rfl) ?_
              refine va_get (ci := 3) (v := .int plan_law) (C := RX3) (T := TX3) (N := 7) hx hb hts iX3 hown hK.1 hP 4 rfl rfl 0 (Nat.le_of_ble_eq_true rfl) k9 (fun _ h9 => h9) rfl dX1_run_135 ?_
              obtain ⟨y20, h21, hM⟩ := s_bd hM
              refine af_v (ws2 := (w_Co_run cI cJ cS q_t q_plan q_t_line q_t_servedAt q_t_line_row q_plan_kinds q_plan_comes q_plan_wants q_plan_outs t_serving t_awaited y16 t_doneAt y20.1 y20.2 t_servedAt plan_law plan_count plan_bells plan_kinds plan_comes plan_wants plan_outs)) (va_runV (As := [.int plan_law]) (rest := []) ⟨hx, hb, hml, hown, hts⟩ (c_Li_turn l D cI cJ cS q_t_line q_t_line_row t_line_size t_line_row plan_law y20 h21 _) (cwV 1 hts gX1_run_X2_turn rfl rfl rfl (by decide +kernel) ⟨(Nat.le_of_ble_eq_true rfl), (Nat.le_of_ble_eq_true rfl)⟩) (pre_V hK hP hD [1, 2] rfl rfl rfl rfl) rfl rfl hl.1 rfl (lv_room (Nat.le_of_ble_eq_true rfl)) dX1_run_138 ⟨Nat.zero_le _, Nat.zero_le _⟩) hP hD hS hA [1, 2] [0, 3, 4, 5, 6, 7, 8] [0, 7, 8, 1, 2, 3, 4, 5, 6] rfl rfl rfl (by decide) rfl rfl (fun H locs hP hD hS => ?_)
              exact J141 x5 x7 t_serving t_awaited y16 t_doneAt y20.1 y20.2 t_servedAt hM _ _ hP hD hS _ (lv_sub hl [0, 1, 2, 3, 4, 5] rfl)
      have J62 : ∀ (x5 : Int64) (x7 : Int32) (t_serving : Int32) (t_awaited : Int32) (t_turnable : Int64) (t_doneAt : Int32) (t_line_size : Int32) (t_line_row : Nat → Int32) (t_servedAt : Nat → Int32), (Co_run_j62 p_set p_toFind p_last plan_law plan_count plan_bells plan_kinds plan_comes plan_wants plan_outs x5 x7 t_serving t_awaited t_turnable t_doneAt t_line_size t_line_row t_servedAt).bind (sg (itr (Co_run_s33 p_set p_toFind p_last plan_law plan_count plan_bells plan_kinds plan_comes plan_wants plan_outs) n)) = some o → ∀ (H : Heap) (locs : List Loc), va_P D vwCl (w_Co_run cI cJ cS q_t q_plan q_t_line q_t_servedAt q_t_line_row q_plan_kinds q_plan_comes q_plan_wants q_plan_outs t_serving t_awaited t_turnable t_doneAt t_line_size t_line_row t_servedAt plan_law plan_count plan_bells plan_kinds plan_comes plan_wants plan_outs) H → va_D A (w_Co_run cI cJ cS q_t q_plan q_t_line q_t_servedAt q_t_line_row q_plan_kinds q_plan_comes q_plan_wants q_plan_outs t_serving t_awaited t_turnable t_doneAt t_line_size t_line_row t_servedAt plan_law plan_count plan_bells plan_kinds plan_comes plan_wants plan_outs) → va_S A s.heap H locs → ∀ ls : Array Slot, lv_has ls 8 [(0, .ref q_t), (1, .ref q_plan), (2, .int p_set), (4, .int p_last), (5, .long x5), (7, .int x7)] → W p l e (headSpec wsX1_run rm_Co_run).room s m args below meth c H locs 0 0 (MQ below (CQv D (w_Co_run cI cJ cS q_t q_plan q_t_line q_t_servedAt q_t_line_row q_plan_kinds q_plan_comes q_plan_wants q_plan_outs o.1 o.2.1 o.2.2.1 o.2.2.2.1 o.2.2.2.2.1 o.2.2.2.2.2.1 o.2.2.2.2.2.2 plan_law plan_count plan_bells plan_kinds plan_comes plan_wants plan_outs) A) args s 0 0 A) (F0 m 62 ls []) := by
        intro x5 x7 t_serving t_awaited t_turnable t_doneAt t_line_size t_line_row t_servedAt hM H locs hP hD hS ls hl
        unfold Co_run_j62 at hM
        refine lv_lload hx hb dX1_run_62 (lv_at hl 4 rfl) ?_
        refine lv_iload hx hb dX1_run_64 (lv_at hl 5 rfl) ?_
        obtain ⟨y6, h7, hM⟩ := s_bd hM
        refine af_i (ws2 := (w_Co_run cI cJ cS q_t q_plan q_t_line q_t_servedAt q_t_line_row q_plan_kinds q_plan_comes q_plan_wants q_plan_outs t_serving t_awaited t_turnable t_doneAt t_line_size t_line_row t_servedAt plan_law plan_count plan_bells plan_kinds plan_comes plan_wants plan_outs)) (va_runSN (As := [.long x5, .int x7]) (rest := []) ⟨hx, hb, hml, hown, hts⟩ (c_Tq_hasMinute l D cI cJ cS x5 x7 y6 h7 _) ⟨va_cnB 2 hts gX1_run_X8_hasMinute_n59 rfl rfl rfl hK.2.2.2.2.2.2.2.2.2.2.2.1 k6 (by decide +kernel) ⟨(Nat.le_of_ble_eq_true rfl), (Nat.le_of_ble_eq_true rfl)⟩, k7, trivial⟩ (pre_S hK hP hD [] rfl rfl) rfl rfl hl.1 rfl (lv_room (Nat.le_of_ble_eq_true rfl)) dX1_run_66 ⟨Nat.zero_le _, Nat.zero_le _⟩) hP hD hS hA [] [0, 1, 2, 3, 4, 5, 6, 7, 8] [0, 1, 2, 3, 4, 5, 6, 7, 8] rfl rfl rfl (by decide) rfl rfl (fun H locs hP hD hS => ?_)
        refine lv_if_eq (tgt := 87) hx hb dX1_run_69 (by decide) (fun c8 => ?_) (fun c8 => ?_)
        · have hM := (s_if hM).1 c8
          exact J87 x5 x7 t_serving t_awaited t_turnable t_doneAt t_line_size t_line_row t_servedAt hM _ _ hP hD hS _ (lv_sub hl [0, 1, 2, 3, 4, 5] rfl)
        · have hM := (s_if hM).2 c8
          refine lv_aload_n hx hb dX1_run_72 rfl (lv_at hl 0 rfl) ?_
          refine lv_aload_n hx hb dX1_run_73 rfl (lv_at hl 1 rfl) ?_
          refine lv_iload hx hb dX1_run_74 (lv_at hl 5 rfl) ?_
          obtain ⟨y22, h23, hM⟩ := s_bd hM
          refine af_v (ws2 := (w_Co_run cI cJ cS q_t q_plan q_t_line q_t_servedAt q_t_line_row q_plan_kinds q_plan_comes q_plan_wants q_plan_outs t_serving t_awaited t_turnable t_doneAt y22.1 y22.2 t_servedAt plan_law plan_count plan_bells plan_kinds plan_comes plan_wants plan_outs)) (va_runV (As := [.ref q_plan, .int x7]) (rest := []) ⟨hx, hb, hml, hown, hts⟩ (c_Co_letRunOut l D cI cJ cS q_t q_plan q_t_line q_t_servedAt q_t_line_row q_plan_kinds q_plan_comes q_plan_wants q_plan_outs t_serving t_awaited t_turnable t_doneAt t_line_size t_line_row plan_law plan_count plan_bells plan_outs x7 y22 h23 _) (cwV 2 hts gX1_run_X1_letRunOut rfl rfl rfl (by decide +kernel) ⟨(Nat.le_of_ble_eq_true rfl), (Nat.le_of_ble_eq_true rfl)⟩) (pre_V hK hP hD [0, 1, 2, 4, 8] rfl rfl rfl rfl) rfl rfl hl.1 rfl (lv_room (Nat.le_of_ble_eq_true rfl)) dX1_run_76 ⟨Nat.zero_le _, Nat.zero_le _⟩) hP hD hS hA [0, 1, 2, 4, 8] [3, 5, 6, 7] [4, 5, 6, 0, 7, 1, 2, 3, 8] rfl rfl rfl (by decide) rfl rfl (fun H locs hP hD hS => ?_)
          refine lv_aload_n hx hb dX1_run_79 rfl (lv_at hl 0 rfl) ?_
          refine lv_aload_n hx hb dX1_run_80 rfl (lv_at hl 1 rfl) ?_
          refine lv_iload_n hx hb dX1_run_81 rfl (lv_at hl 2 rfl) ?_
          refine lv_iload hx hb dX1_run_82 (lv_at hl 5 rfl) ?_
          obtain ⟨y24, h25, hM⟩ := s_bd hM
          refine af_v (ws2 := (w_Co_run cI cJ cS q_t q_plan q_t_line q_t_servedAt q_t_line_row q_plan_kinds q_plan_comes q_plan_wants q_plan_outs t_serving t_awaited t_turnable t_doneAt y24.1 y24.2 t_servedAt plan_law plan_count plan_bells plan_kinds plan_comes plan_wants plan_outs)) (va_runV (As := [.ref q_plan, .int p_set, .int x7]) (rest := []) ⟨hx, hb, hml, hown, hts⟩ (c_Co_letCome l D cI cJ cS q_t q_plan q_t_line q_t_servedAt q_t_line_row q_plan_kinds q_plan_comes q_plan_wants q_plan_outs t_serving t_awaited t_turnable t_doneAt y22.1 y22.2 plan_law plan_count plan_bells plan_kinds plan_comes p_set x7 y24 h25 _) (cwV 3 hts gX1_run_X1_letCome rfl rfl rfl (by decide +kernel) ⟨(Nat.le_of_ble_eq_true rfl), (Nat.le_of_ble_eq_true rfl)⟩) (pre_V hK hP hD [0, 1, 2, 4, 5, 6] rfl rfl rfl rfl) rfl rfl hl.1 rfl (lv_room (Nat.le_of_ble_eq_true rfl)) dX1_run_84 ⟨Nat.zero_le _, Nat.zero_le _⟩) hP hD hS hA [0, 1, 2, 4, 5, 6] [3, 7, 8] [3, 4, 5, 0, 6, 7, 8, 1, 2] rfl rfl rfl (by decide) rfl rfl (fun H locs hP hD hS => ?_)
          exact J87 x5 x7 t_serving t_awaited t_turnable t_doneAt y24.1 y24.2 t_servedAt hM _ _ hP hD hS _ (lv_sub hl [0, 1, 2, 3, 4, 5] rfl)
      intro x5 x7 t_serving t_awaited t_turnable t_doneAt t_line_size t_line_row t_servedAt hM H locs hP hD hS ls hl
      have hM : (Co_run_b33 p_set p_toFind p_last plan_law plan_count plan_bells plan_kinds plan_comes plan_wants plan_outs x5 x7 t_serving t_awaited t_turnable t_doneAt t_line_size t_line_row t_servedAt).bind (sg (itr (Co_run_s33 p_set p_toFind p_last plan_law plan_count plan_bells plan_kinds plan_comes plan_wants plan_outs) n)) = some o := hM
      unfold Co_run_b33 at hM
      refine lv_iload hx hb dX1_run_33 (lv_at hl 5 rfl) ?_
      refine lv_iload hx hb dX1_run_35 (lv_at hl 3 rfl) ?_
      refine lv_icmp_gt (tgt := 163) hx hb dX1_run_37 (by decide) (fun c3 => ?_) (fun c3 => ?_)
      · have hM := (s_if hM).1 c3
        have hM := (Option.some.inj (s_rt hM))
        subst hM
        exact rt_v hx hb hr hlocks hP hD hS dX1_run_163
      · have hM := (s_if hM).2 c3
        refine lv_aload_n hx hb dX1_run_40 rfl (lv_at hl 0 rfl) ?_
        refine va_get (ci := 1) (v := .int t_awaited) (C := RX1) (T := TX1) (N := 6) hx hb hts iX1 hown hK.1 hP 0 rfl rfl 3 (Nat.le_of_ble_eq_true rfl) k3 (fun _ h9 => h9) rfl dX1_run_41 ?_
        refine lv_if_eq (tgt := 163) hx hb dX1_run_44 (by decide) (fun c4 => ?_) (fun c4 => ?_)
        · have hM := (s_if hM).1 c4
          have hM := (Option.some.inj (s_rt hM))
          subst hM
          exact rt_v hx hb hr hlocks hP hD hS dX1_run_163
        · have hM := (s_if hM).2 c4
          refine lv_iload hx hb dX1_run_47 (lv_at hl 5 rfl) ?_
          refine lv_aload_n hx hb dX1_run_49 rfl (lv_at hl 0 rfl) ?_
          refine va_get (ci := 1) (v := .int t_doneAt) (C := RX1) (T := TX1) (N := 6) hx hb hts iX1 hown hK.1 hP 0 rfl rfl 5 (Nat.le_of_ble_eq_true rfl) k5 (fun _ h9 => h9) rfl dX1_run_50 ?_
          refine lv_icmp_ne (tgt := 62) hx hb dX1_run_53 (by decide) (fun c5 => ?_) (fun c5 => ?_)
          · have hM := (s_if hM).2 c5
            exact J62 x5 x7 t_serving t_awaited t_turnable t_doneAt t_line_size t_line_row t_servedAt hM _ _ hP hD hS _ (lv_sub hl [0, 1, 2, 3, 4, 5] rfl)
          · have hM := (s_if hM).1 c5
            refine lv_aload_n hx hb dX1_run_56 rfl (lv_at hl 0 rfl) ?_
            refine lv_bipush (v := (-9)) hx hb dX1_run_57 (by decide) ?_
            refine va_put (ci := 1) (v := .int (-9)) (ty := .int) (C := RX1) (T := TX1) (N := 6) hx hb hts iX1 tyX1 tyX1_ok nmX1 hown hK.1 hP hD hS 0 rfl rfl 2 (Nat.le_of_ble_eq_true rfl) k2 (fun _ h9 => h9) rfl (tyX1_ok 2 (Nat.le_of_ble_eq_true rfl)) rfl rfl (Nat.le_of_ble_eq_true rfl) dX1_run_59 (fun H locs hP hD hS => ?_)
            have hP : va_P D vwCl (w_Co_run cI cJ cS q_t q_plan q_t_line q_t_servedAt q_t_line_row q_plan_kinds q_plan_comes q_plan_wants q_plan_outs (-9) t_awaited t_turnable t_doneAt t_line_size t_line_row t_servedAt plan_law plan_count plan_bells plan_kinds plan_comes plan_wants plan_outs) H := hP
            have hD : va_D A (w_Co_run cI cJ cS q_t q_plan q_t_line q_t_servedAt q_t_line_row q_plan_kinds q_plan_comes q_plan_wants q_plan_outs (-9) t_awaited t_turnable t_doneAt t_line_size t_line_row t_servedAt plan_law plan_count plan_bells plan_kinds plan_comes plan_wants plan_outs) := hD
            exact J62 x5 x7 (-9) t_awaited t_turnable t_doneAt t_line_size t_line_row t_servedAt hM _ _ hP hD hS _ (lv_sub hl [0, 1, 2, 3, 4, 5] rfl)
  have J33 : ∀ (x5 : Int64) (x7 : Int32) (t_serving : Int32) (t_awaited : Int32) (t_turnable : Int64) (t_doneAt : Int32) (t_line_size : Int32) (t_line_row : Nat → Int32) (t_servedAt : Nat → Int32), Co_run_l33 p_set p_toFind p_last plan_law plan_count plan_bells plan_kinds plan_comes plan_wants plan_outs x5 x7 t_serving t_awaited t_turnable t_doneAt t_line_size t_line_row t_servedAt = some o → ∀ (H : Heap) (locs : List Loc), va_P D vwCl (w_Co_run cI cJ cS q_t q_plan q_t_line q_t_servedAt q_t_line_row q_plan_kinds q_plan_comes q_plan_wants q_plan_outs t_serving t_awaited t_turnable t_doneAt t_line_size t_line_row t_servedAt plan_law plan_count plan_bells plan_kinds plan_comes plan_wants plan_outs) H → va_D A (w_Co_run cI cJ cS q_t q_plan q_t_line q_t_servedAt q_t_line_row q_plan_kinds q_plan_comes q_plan_wants q_plan_outs t_serving t_awaited t_turnable t_doneAt t_line_size t_line_row t_servedAt plan_law plan_count plan_bells plan_kinds plan_comes plan_wants plan_outs) → va_S A s.heap H locs → ∀ ls : Array Slot, lv_has ls 8 [(0, .ref q_t), (1, .ref q_plan), (2, .int p_set), (4, .int p_last), (5, .long x5), (7, .int x7)] → W p l e (headSpec wsX1_run rm_Co_run).room s m args below meth c H locs 0 0 (MQ below (CQv D (w_Co_run cI cJ cS q_t q_plan q_t_line q_t_servedAt q_t_line_row q_plan_kinds q_plan_comes q_plan_wants q_plan_outs o.1 o.2.1 o.2.2.1 o.2.2.2.1 o.2.2.2.2.1 o.2.2.2.2.2.1 o.2.2.2.2.2.2 plan_law plan_count plan_bells plan_kinds plan_comes plan_wants plan_outs) A) args s 0 0 A) (F0 m 33 ls []) := by
    intro x5 x7 t_serving t_awaited t_turnable t_doneAt t_line_size t_line_row t_servedAt hM
    unfold Co_run_l33 at hM
    obtain ⟨n0, hM⟩ := fin_some hM
    exact (L33 n0) x5 x7 t_serving t_awaited t_turnable t_doneAt t_line_size t_line_row t_servedAt hM
  unfold Co_run at hM
  refine lv_aload_n hx hb dX1_run_0 rfl (lv_at hl 0 rfl) ?_
  refine va_get (ci := 1) (v := .ref q_t_line) (C := RX1) (T := TX1) (N := 6) hx hb hts iX1 hown hK.1 hP 0 rfl rfl 0 (Nat.le_of_ble_eq_true rfl) k0 (fun _ h9 => h9) rfl dX1_run_1 ?_
  refine lv_iconst (v := 0) hx hb dX1_run_4 (by decide) ?_
  refine va_put (ci := 2) (v := .int 0) (ty := .int) (C := RX2) (T := TX2) (N := 2) hx hb hts iX2 tyX2 tyX2_ok nmX2 hown hK.1 hP hD hS 1 rfl rfl 1 (Nat.le_of_ble_eq_true rfl) k1 (fun _ h9 => h9) rfl (tyX2_ok 1 (Nat.le_of_ble_eq_true rfl)) rfl rfl (Nat.le_of_ble_eq_true rfl) dX1_run_5 (fun H locs hP hD hS => ?_)
  have hP : va_P D vwCl (w_Co_run cI cJ cS q_t q_plan q_t_line q_t_servedAt q_t_line_row q_plan_kinds q_plan_comes q_plan_wants q_plan_outs t_serving t_awaited t_turnable t_doneAt 0 t_line_row t_servedAt plan_law plan_count plan_bells plan_kinds plan_comes plan_wants plan_outs) H := hP
  have hD : va_D A (w_Co_run cI cJ cS q_t q_plan q_t_line q_t_servedAt q_t_line_row q_plan_kinds q_plan_comes q_plan_wants q_plan_outs t_serving t_awaited t_turnable t_doneAt 0 t_line_row t_servedAt plan_law plan_count plan_bells plan_kinds plan_comes plan_wants plan_outs) := hD
  refine lv_aload_n hx hb dX1_run_8 rfl (lv_at hl 0 rfl) ?_
  refine lv_bipush (v := (-9)) hx hb dX1_run_9 (by decide) ?_
  refine va_put (ci := 1) (v := .int (-9)) (ty := .int) (C := RX1) (T := TX1) (N := 6) hx hb hts iX1 tyX1 tyX1_ok nmX1 hown hK.1 hP hD hS 0 rfl rfl 2 (Nat.le_of_ble_eq_true rfl) k2 (fun _ h9 => h9) rfl (tyX1_ok 2 (Nat.le_of_ble_eq_true rfl)) rfl rfl (Nat.le_of_ble_eq_true rfl) dX1_run_11 (fun H locs hP hD hS => ?_)
  have hP : va_P D vwCl (w_Co_run cI cJ cS q_t q_plan q_t_line q_t_servedAt q_t_line_row q_plan_kinds q_plan_comes q_plan_wants q_plan_outs (-9) t_awaited t_turnable t_doneAt 0 t_line_row t_servedAt plan_law plan_count plan_bells plan_kinds plan_comes plan_wants plan_outs) H := hP
  have hD : va_D A (w_Co_run cI cJ cS q_t q_plan q_t_line q_t_servedAt q_t_line_row q_plan_kinds q_plan_comes q_plan_wants q_plan_outs (-9) t_awaited t_turnable t_doneAt 0 t_line_row t_servedAt plan_law plan_count plan_bells plan_kinds plan_comes plan_wants plan_outs) := hD
  refine lv_aload_n hx hb dX1_run_14 rfl (lv_at hl 0 rfl) ?_
  refine lv_iload_n hx hb dX1_run_15 rfl (lv_at hl 3 rfl) ?_
  refine va_put (ci := 1) (v := .int p_toFind) (ty := .int) (C := RX1) (T := TX1) (N := 6) hx hb hts iX1 tyX1 tyX1_ok nmX1 hown hK.1 hP hD hS 0 rfl rfl 3 (Nat.le_of_ble_eq_true rfl) k3 (fun _ h9 => h9) rfl (tyX1_ok 3 (Nat.le_of_ble_eq_true rfl)) rfl rfl (Nat.le_of_ble_eq_true rfl) dX1_run_16 (fun H locs hP hD hS => ?_)
  have hP : va_P D vwCl (w_Co_run cI cJ cS q_t q_plan q_t_line q_t_servedAt q_t_line_row q_plan_kinds q_plan_comes q_plan_wants q_plan_outs (-9) p_toFind t_turnable t_doneAt 0 t_line_row t_servedAt plan_law plan_count plan_bells plan_kinds plan_comes plan_wants plan_outs) H := hP
  have hD : va_D A (w_Co_run cI cJ cS q_t q_plan q_t_line q_t_servedAt q_t_line_row q_plan_kinds q_plan_comes q_plan_wants q_plan_outs (-9) p_toFind t_turnable t_doneAt 0 t_line_row t_servedAt plan_law plan_count plan_bells plan_kinds plan_comes plan_wants plan_outs) := hD
  refine lv_aload_n hx hb dX1_run_19 rfl (lv_at hl 0 rfl) ?_
  refine lv_lconst (v := 0) hx hb dX1_run_20 (by decide) ?_
  refine va_put (ci := 1) (v := .long 0) (ty := .long) (C := RX1) (T := TX1) (N := 6) hx hb hts iX1 tyX1 tyX1_ok nmX1 hown hK.1 hP hD hS 0 rfl rfl 4 (Nat.le_of_ble_eq_true rfl) k4 (fun _ h9 => h9) rfl (tyX1_ok 4 (Nat.le_of_ble_eq_true rfl)) rfl rfl (Nat.le_of_ble_eq_true rfl) dX1_run_21 (fun H locs hP hD hS => ?_)
  have hP : va_P D vwCl (w_Co_run cI cJ cS q_t q_plan q_t_line q_t_servedAt q_t_line_row q_plan_kinds q_plan_comes q_plan_wants q_plan_outs (-9) p_toFind 0 t_doneAt 0 t_line_row t_servedAt plan_law plan_count plan_bells plan_kinds plan_comes plan_wants plan_outs) H := hP
  have hD : va_D A (w_Co_run cI cJ cS q_t q_plan q_t_line q_t_servedAt q_t_line_row q_plan_kinds q_plan_comes q_plan_wants q_plan_outs (-9) p_toFind 0 t_doneAt 0 t_line_row t_servedAt plan_law plan_count plan_bells plan_kinds plan_comes plan_wants plan_outs) := hD
  refine lv_aload_n hx hb dX1_run_24 rfl (lv_at hl 1 rfl) ?_
  obtain ⟨y1, h2, hM⟩ := o_bd hM
  refine af_l (ws2 := (w_Co_run cI cJ cS q_t q_plan q_t_line q_t_servedAt q_t_line_row q_plan_kinds q_plan_comes q_plan_wants q_plan_outs (-9) p_toFind 0 t_doneAt 0 t_line_row t_servedAt plan_law plan_count plan_bells plan_kinds plan_comes plan_wants plan_outs)) (va_runS (As := [.ref q_plan]) (rest := []) ⟨hx, hb, hml, hown, hts⟩ (c_Co_movesOf l D cI cJ cS q_plan q_plan_kinds q_plan_comes q_plan_wants q_plan_outs plan_law plan_count plan_bells plan_comes plan_outs y1 h2 _) (va_cwS 1 hts gX1_run_X1_movesOf rfl rfl rfl (by decide +kernel) ⟨(Nat.le_of_ble_eq_true rfl), (Nat.le_of_ble_eq_true rfl)⟩) (pre_S hK hP hD [4, 6, 8] rfl rfl) rfl rfl hl.1 rfl (lv_room (Nat.le_of_ble_eq_true rfl)) dX1_run_25 ⟨Nat.zero_le _, Nat.zero_le _⟩) hP hD hS hA [4, 6, 8] [0, 1, 2, 3, 5, 7] [0, 1, 2, 3, 6, 4, 7, 5, 8] rfl rfl rfl (by decide) rfl rfl (fun H locs hP hD hS => ?_)
  refine lv_lstore (lv' := [(5, .long y1), (0, .ref q_t), (1, .ref q_plan), (2, .int p_set), (3, .int p_toFind), (4, .int p_last)]) hx hb dX1_run_28 hl (Nat.le_of_ble_eq_true rfl) rfl (fun ls hl => ?_)
  refine lv_iconst (v := 0) hx hb dX1_run_30 (by decide) ?_
  refine lv_istore (lv' := [(7, .int 0), (5, .long y1), (0, .ref q_t), (1, .ref q_plan), (2, .int p_set), (3, .int p_toFind), (4, .int p_last)]) hx hb dX1_run_31 hl (Nat.le_of_ble_eq_true rfl) rfl (fun ls hl => ?_)
  exact J33 y1 0 (-9) p_toFind 0 t_doneAt 0 t_line_row t_servedAt hM _ _ hP hD hS _ (lv_sub hl [2, 3, 4, 6, 1, 0] rfl)
/-! ===== TurnQueue$Counter.servedOf ===== -/
abbrev w_Co_servedOf (cI cJ cS : ClassId) (q_t : Nat) (q_plan : Nat) (q_t_line : Nat) (q_t_servedAt : Nat) (q_t_line_row : Nat) (q_plan_kinds : Nat) (q_plan_comes : Nat) (q_plan_wants : Nat) (q_plan_outs : Nat) (t_serving : Int32) (t_awaited : Int32) (t_turnable : Int64) (t_doneAt : Int32) (t_line_size : Int32) (t_line_row : Nat → Int32) (t_servedAt : Nat → Int32) (plan_law : Int32) (plan_count : Int32) (plan_bells : Int64) (plan_kinds : Nat → Int32) (plan_comes : Nat → Int32) (plan_wants : Nat → Int32) (plan_outs : Nat → Int32) : va_W := [(q_t, .inr (1, [.ref q_t_line, .ref q_t_servedAt, .int t_serving, .int t_awaited, .long t_turnable, .int t_doneAt])), (q_t_line, .inr (2, [.ref q_t_line_row, .int t_line_size])), (q_t_line_row, ar cI 7 t_line_row), (q_t_servedAt, ar cI 7 t_servedAt), (q_plan, .inr (3, [.int plan_law, .int plan_count, .long plan_bells, .ref q_plan_kinds, .ref q_plan_comes, .ref q_plan_wants, .ref q_plan_outs])), (q_plan_kinds, ar cI 7 plan_kinds), (q_plan_comes, ar cI 7 plan_comes), (q_plan_wants, ar cI 7 plan_wants), (q_plan_outs, ar cI 7 plan_outs)]
abbrev rm_Co_servedOf : Room := { frames := 4, cells := 0, slots := 0, locals := 96 }
noncomputable def Co_servedOf (p_p : Int32) (plan_law : Int32) (plan_count : Int32) (plan_bells : Int64) (plan_kinds : Nat → Int32) (plan_comes : Nat → Int32) (plan_wants : Nat → Int32) (plan_outs : Nat → Int32) (t_serving : Int32) (t_awaited : Int32) (t_turnable : Int64) (t_doneAt : Int32) (t_line_size : Int32) (t_line_row : Nat → Int32) (t_servedAt : Nat → Int32) : Option (Int32 × Int32 × Int32 × Int64 × Int32 × Int32 × (Nat → Int32) × (Nat → Int32)) :=
  (Pl_everybody plan_count).bind fun y1 =>
  (Co_run y1 ((1 : Int32) <<< (p_p &&& 31)) 199 plan_law plan_count plan_bells plan_kinds plan_comes plan_wants plan_outs t_serving t_awaited t_turnable t_doneAt t_line_size t_line_row t_servedAt).bind fun y3 =>
  if ck p_p 7 = true then
    some (y3.2.2.2.2.2.2 p_p.toNatClampNeg, y3.1, y3.2.1, y3.2.2.1, y3.2.2.2.1, y3.2.2.2.2.1, y3.2.2.2.2.2.1, y3.2.2.2.2.2.2)
  else none
set_option maxRecDepth 100000 in
set_option maxHeartbeats 4000000 in
theorem c_Co_servedOf (l : Launch) (D : va_G) (cI cJ cS : ClassId) (q_t q_plan q_t_line q_t_servedAt q_t_line_row q_plan_kinds q_plan_comes q_plan_wants q_plan_outs : Nat) (t_serving : Int32) (t_awaited : Int32) (t_turnable : Int64) (t_doneAt : Int32) (t_line_size : Int32) (t_line_row : Nat → Int32) (t_servedAt : Nat → Int32) (plan_law : Int32) (plan_count : Int32) (plan_bells : Int64) (plan_kinds : Nat → Int32) (plan_comes : Nat → Int32) (plan_wants : Nat → Int32) (plan_outs : Nat → Int32) (p_p : Int32) (o : Int32 × Int32 × Int32 × Int64 × Int32 × Int32 × (Nat → Int32) × (Nat → Int32)) (hM : Co_servedOf p_p plan_law plan_count plan_bells plan_kinds plan_comes plan_wants plan_outs t_serving t_awaited t_turnable t_doneAt t_line_size t_line_row t_servedAt = some o) : Ci l yX1_servedOf wsX1_servedOf rm_Co_servedOf D cI cJ cS [.ref q_t, .ref q_plan, .int p_p] (w_Co_servedOf cI cJ cS q_t q_plan q_t_line q_t_servedAt q_t_line_row q_plan_kinds q_plan_comes q_plan_wants q_plan_outs t_serving t_awaited t_turnable t_doneAt t_line_size t_line_row t_servedAt plan_law plan_count plan_bells plan_kinds plan_comes plan_wants plan_outs) (w_Co_servedOf cI cJ cS q_t q_plan q_t_line q_t_servedAt q_t_line_row q_plan_kinds q_plan_comes q_plan_wants q_plan_outs o.2.1 o.2.2.1 o.2.2.2.1 o.2.2.2.2.1 o.2.2.2.2.2.1 o.2.2.2.2.2.2.1 o.2.2.2.2.2.2.2 plan_law plan_count plan_bells plan_kinds plan_comes plan_wants plan_outs) o.1 := by
  refine Ci.of (cc := cX1_servedOf) (maxL := 3) (ret := (some .int)) (by decide) rfl (Nat.le_of_ble_eq_true rfl) ?_
  intro p e s m args below meth c A ls hE
  obtain ⟨hx, hb, hr, hml, hown, hts, hlocks, hK, hA, hP, hD, hS, hl⟩ := hE
  have hown : s.vm.findClass RX1 = some m.cls := hown
  have hl : lv_has ls 3 [(0, .ref q_t), (1, .ref q_plan), (2, .int p_p)] := hl
  have iX1 : ∀ w ∈ u_ws RX1 TX1 6, w ∈ wsX1_servedOf := by decide +kernel
  have k0 := hts (.fieldLink RX1 18 "TurnQueue$Counter" "servedAt" "[I") (by decide +kernel)
  unfold Co_servedOf at hM
  refine lv_aload_n hx hb dX1_servedOf_0 rfl (lv_at hl 0 rfl) ?_
  refine lv_aload_n hx hb dX1_servedOf_1 rfl (lv_at hl 1 rfl) ?_
  refine lv_aload_n hx hb dX1_servedOf_2 rfl (lv_at hl 1 rfl) ?_
  obtain ⟨y1, h2, hM⟩ := o_bd hM
  refine af_i (ws2 := (w_Co_servedOf cI cJ cS q_t q_plan q_t_line q_t_servedAt q_t_line_row q_plan_kinds q_plan_comes q_plan_wants q_plan_outs t_serving t_awaited t_turnable t_doneAt t_line_size t_line_row t_servedAt plan_law plan_count plan_bells plan_kinds plan_comes plan_wants plan_outs)) (va_runV (As := []) (rest := [.ref q_plan, .ref q_t]) ⟨hx, hb, hml, hown, hts⟩ (c_Pl_everybody l D cI cJ cS q_plan q_plan_kinds q_plan_comes q_plan_wants q_plan_outs plan_law plan_count plan_bells y1 h2 _) (cwV 0 hts gX1_servedOf_X3_everybody rfl rfl rfl (by decide +kernel) ⟨(Nat.le_of_ble_eq_true rfl), (Nat.le_of_ble_eq_true rfl)⟩) (pre_V hK hP hD [4] rfl rfl rfl rfl) rfl rfl hl.1 rfl (lv_room (Nat.le_of_ble_eq_true rfl)) dX1_servedOf_3 ⟨Nat.zero_le _, Nat.zero_le _⟩) hP hD hS hA [4] [0, 1, 2, 3, 5, 6, 7, 8] [0, 1, 2, 3, 8, 4, 5, 6, 7] rfl rfl rfl (by decide) rfl rfl (fun H locs hP hD hS => ?_)
  refine lv_iconst (v := 1) hx hb dX1_servedOf_6 (by decide) ?_
  refine lv_iload_n hx hb dX1_servedOf_7 rfl (lv_at hl 2 rfl) ?_
  refine lv_ishl hx hb dX1_servedOf_8 ?_
  refine lv_sipush (v := 199) hx hb dX1_servedOf_9 (by decide) ?_
  obtain ⟨y3, h4, hM⟩ := o_bd hM
  refine af_v (ws2 := (w_Co_servedOf cI cJ cS q_t q_plan q_t_line q_t_servedAt q_t_line_row q_plan_kinds q_plan_comes q_plan_wants q_plan_outs y3.1 y3.2.1 y3.2.2.1 y3.2.2.2.1 y3.2.2.2.2.1 y3.2.2.2.2.2.1 y3.2.2.2.2.2.2 plan_law plan_count plan_bells plan_kinds plan_comes plan_wants plan_outs)) (va_runV (As := [.ref q_plan, .int y1, .int ((1 : Int32) <<< (p_p &&& 31)), .int 199]) (rest := []) ⟨hx, hb, hml, hown, hts⟩ (c_Co_run l D cI cJ cS q_t q_plan q_t_line q_t_servedAt q_t_line_row q_plan_kinds q_plan_comes q_plan_wants q_plan_outs t_serving t_awaited t_turnable t_doneAt t_line_size t_line_row t_servedAt plan_law plan_count plan_bells plan_kinds plan_comes plan_wants plan_outs y1 ((1 : Int32) <<< (p_p &&& 31)) 199 y3 h4 _) (cwV 4 hts gX1_servedOf_X1_run rfl rfl rfl (by decide +kernel) ⟨(Nat.le_of_ble_eq_true rfl), (Nat.le_of_ble_eq_true rfl)⟩) (pre_V hK hP hD [0, 1, 2, 3, 4, 5, 6, 7, 8] rfl rfl rfl rfl) rfl rfl hl.1 rfl (lv_room (Nat.le_of_ble_eq_true rfl)) dX1_servedOf_12 ⟨Nat.zero_le _, Nat.zero_le _⟩) hP hD hS hA [0, 1, 2, 3, 4, 5, 6, 7, 8] [] [0, 1, 2, 3, 4, 5, 6, 7, 8] rfl rfl rfl (by decide) rfl rfl (fun H locs hP hD hS => ?_)
  refine lv_aload_n hx hb dX1_servedOf_15 rfl (lv_at hl 0 rfl) ?_
  refine va_get (ci := 1) (v := .ref q_t_servedAt) (C := RX1) (T := TX1) (N := 6) hx hb hts iX1 hown hK.1 hP 0 rfl rfl 1 (Nat.le_of_ble_eq_true rfl) k0 (fun _ h9 => h9) rfl dX1_servedOf_16 ?_
  refine lv_iload_n hx hb dX1_servedOf_19 rfl (lv_at hl 2 rfl) ?_
  obtain ⟨h5, hM⟩ := o_ck hM
  refine va_iald hx hb hK.1 hP 3 0 rfl rfl h5 dX1_servedOf_20 ?_
  have hM := (Option.some.inj hM)
  subst hM
  exact rt_i hx hb hr hlocks hP hD hS dX1_servedOf_21
/-! ===== TurnQueue$Counter.runThrough ===== -/
abbrev w_Co_runThrough (cI cJ cS : ClassId) (q_t : Nat) (q_plan : Nat) (q_t_line : Nat) (q_t_servedAt : Nat) (q_t_line_row : Nat) (q_plan_kinds : Nat) (q_plan_comes : Nat) (q_plan_wants : Nat) (q_plan_outs : Nat) (t_serving : Int32) (t_awaited : Int32) (t_turnable : Int64) (t_doneAt : Int32) (t_line_size : Int32) (t_line_row : Nat → Int32) (t_servedAt : Nat → Int32) (plan_law : Int32) (plan_count : Int32) (plan_bells : Int64) (plan_kinds : Nat → Int32) (plan_comes : Nat → Int32) (plan_wants : Nat → Int32) (plan_outs : Nat → Int32) : va_W := [(q_t, .inr (1, [.ref q_t_line, .ref q_t_servedAt, .int t_serving, .int t_awaited, .long t_turnable, .int t_doneAt])), (q_t_line, .inr (2, [.ref q_t_line_row, .int t_line_size])), (q_t_line_row, ar cI 7 t_line_row), (q_t_servedAt, ar cI 7 t_servedAt), (q_plan, .inr (3, [.int plan_law, .int plan_count, .long plan_bells, .ref q_plan_kinds, .ref q_plan_comes, .ref q_plan_wants, .ref q_plan_outs])), (q_plan_kinds, ar cI 7 plan_kinds), (q_plan_comes, ar cI 7 plan_comes), (q_plan_wants, ar cI 7 plan_wants), (q_plan_outs, ar cI 7 plan_outs)]
abbrev rm_Co_runThrough : Room := { frames := 4, cells := 0, slots := 0, locals := 96 }
noncomputable def Co_runThrough (p_minute : Int32) (plan_law : Int32) (plan_count : Int32) (plan_bells : Int64) (plan_kinds : Nat → Int32) (plan_comes : Nat → Int32) (plan_wants : Nat → Int32) (plan_outs : Nat → Int32) (t_serving : Int32) (t_awaited : Int32) (t_turnable : Int64) (t_doneAt : Int32) (t_line_size : Int32) (t_line_row : Nat → Int32) (t_servedAt : Nat → Int32) : Option (Int32 × Int32 × Int64 × Int32 × Int32 × (Nat → Int32) × (Nat → Int32)) :=
  (Pl_everybody plan_count).bind fun y1 =>
  (Pl_everybody plan_count).bind fun y3 =>
  (Co_run y1 (y3 + 1) p_minute plan_law plan_count plan_bells plan_kinds plan_comes plan_wants plan_outs t_serving t_awaited t_turnable t_doneAt t_line_size t_line_row t_servedAt).bind fun y5 =>
  some (y5.1, y5.2.1, y5.2.2.1, y5.2.2.2.1, y5.2.2.2.2.1, y5.2.2.2.2.2.1, y5.2.2.2.2.2.2)
set_option maxRecDepth 100000 in
set_option maxHeartbeats 4000000 in
theorem c_Co_runThrough (l : Launch) (D : va_G) (cI cJ cS : ClassId) (q_t q_plan q_t_line q_t_servedAt q_t_line_row q_plan_kinds q_plan_comes q_plan_wants q_plan_outs : Nat) (t_serving : Int32) (t_awaited : Int32) (t_turnable : Int64) (t_doneAt : Int32) (t_line_size : Int32) (t_line_row : Nat → Int32) (t_servedAt : Nat → Int32) (plan_law : Int32) (plan_count : Int32) (plan_bells : Int64) (plan_kinds : Nat → Int32) (plan_comes : Nat → Int32) (plan_wants : Nat → Int32) (plan_outs : Nat → Int32) (p_minute : Int32) (o : Int32 × Int32 × Int64 × Int32 × Int32 × (Nat → Int32) × (Nat → Int32)) (hM : Co_runThrough p_minute plan_law plan_count plan_bells plan_kinds plan_comes plan_wants plan_outs t_serving t_awaited t_turnable t_doneAt t_line_size t_line_row t_servedAt = some o) : Cv l yX1_runThrough wsX1_runThrough rm_Co_runThrough D cI cJ cS [.ref q_t, .ref q_plan, .int p_minute] (w_Co_runThrough cI cJ cS q_t q_plan q_t_line q_t_servedAt q_t_line_row q_plan_kinds q_plan_comes q_plan_wants q_plan_outs t_serving t_awaited t_turnable t_doneAt t_line_size t_line_row t_servedAt plan_law plan_count plan_bells plan_kinds plan_comes plan_wants plan_outs) (w_Co_runThrough cI cJ cS q_t q_plan q_t_line q_t_servedAt q_t_line_row q_plan_kinds q_plan_comes q_plan_wants q_plan_outs o.1 o.2.1 o.2.2.1 o.2.2.2.1 o.2.2.2.2.1 o.2.2.2.2.2.1 o.2.2.2.2.2.2 plan_law plan_count plan_bells plan_kinds plan_comes plan_wants plan_outs) := by
  refine Cv.of (cc := cX1_runThrough) (maxL := 3) (ret := none) (by decide) rfl (Nat.le_of_ble_eq_true rfl) ?_
  intro p e s m args below meth c A ls hE
  obtain ⟨hx, hb, hr, hml, hown, hts, hlocks, hK, hA, hP, hD, hS, hl⟩ := hE
  have hown : s.vm.findClass RX1 = some m.cls := hown
  have hl : lv_has ls 3 [(0, .ref q_t), (1, .ref q_plan), (2, .int p_minute)] := hl
  unfold Co_runThrough at hM
  refine lv_aload_n hx hb dX1_runThrough_0 rfl (lv_at hl 0 rfl) ?_
  refine lv_aload_n hx hb dX1_runThrough_1 rfl (lv_at hl 1 rfl) ?_
  refine lv_aload_n hx hb dX1_runThrough_2 rfl (lv_at hl 1 rfl) ?_
  obtain ⟨y1, h2, hM⟩ := o_bd hM
  refine af_i (ws2 := (w_Co_runThrough cI cJ cS q_t q_plan q_t_line q_t_servedAt q_t_line_row q_plan_kinds q_plan_comes q_plan_wants q_plan_outs t_serving t_awaited t_turnable t_doneAt t_line_size t_line_row t_servedAt plan_law plan_count plan_bells plan_kinds plan_comes plan_wants plan_outs)) (va_runV (As := []) (rest := [.ref q_plan, .ref q_t]) ⟨hx, hb, hml, hown, hts⟩ (c_Pl_everybody l D cI cJ cS q_plan q_plan_kinds q_plan_comes q_plan_wants q_plan_outs plan_law plan_count plan_bells y1 h2 _) (cwV 0 hts gX1_runThrough_X3_everybody rfl rfl rfl (by decide +kernel) ⟨(Nat.le_of_ble_eq_true rfl), (Nat.le_of_ble_eq_true rfl)⟩) (pre_V hK hP hD [4] rfl rfl rfl rfl) rfl rfl hl.1 rfl (lv_room (Nat.le_of_ble_eq_true rfl)) dX1_runThrough_3 ⟨Nat.zero_le _, Nat.zero_le _⟩) hP hD hS hA [4] [0, 1, 2, 3, 5, 6, 7, 8] [0, 1, 2, 3, 8, 4, 5, 6, 7] rfl rfl rfl (by decide) rfl rfl (fun H locs hP hD hS => ?_)
  refine lv_aload_n hx hb dX1_runThrough_6 rfl (lv_at hl 1 rfl) ?_
  obtain ⟨y3, h4, hM⟩ := o_bd hM
  refine af_i (ws2 := (w_Co_runThrough cI cJ cS q_t q_plan q_t_line q_t_servedAt q_t_line_row q_plan_kinds q_plan_comes q_plan_wants q_plan_outs t_serving t_awaited t_turnable t_doneAt t_line_size t_line_row t_servedAt plan_law plan_count plan_bells plan_kinds plan_comes plan_wants plan_outs)) (va_runV (As := []) (rest := [.int y1, .ref q_plan, .ref q_t]) ⟨hx, hb, hml, hown, hts⟩ (c_Pl_everybody l D cI cJ cS q_plan q_plan_kinds q_plan_comes q_plan_wants q_plan_outs plan_law plan_count plan_bells y3 h4 _) (cwV 0 hts gX1_runThrough_X3_everybody rfl rfl rfl (by decide +kernel) ⟨(Nat.le_of_ble_eq_true rfl), (Nat.le_of_ble_eq_true rfl)⟩) (pre_V hK hP hD [4] rfl rfl rfl rfl) rfl rfl hl.1 rfl (lv_room (Nat.le_of_ble_eq_true rfl)) dX1_runThrough_7 ⟨Nat.zero_le _, Nat.zero_le _⟩) hP hD hS hA [4] [0, 1, 2, 3, 5, 6, 7, 8] [0, 1, 2, 3, 8, 4, 5, 6, 7] rfl rfl rfl (by decide) rfl rfl (fun H locs hP hD hS => ?_)
  refine lv_iconst (v := 1) hx hb dX1_runThrough_10 (by decide) ?_
  refine lv_iadd hx hb dX1_runThrough_11 ?_
  refine lv_iload_n hx hb dX1_runThrough_12 rfl (lv_at hl 2 rfl) ?_
  obtain ⟨y5, h6, hM⟩ := o_bd hM
  refine af_v (ws2 := (w_Co_runThrough cI cJ cS q_t q_plan q_t_line q_t_servedAt q_t_line_row q_plan_kinds q_plan_comes q_plan_wants q_plan_outs y5.1 y5.2.1 y5.2.2.1 y5.2.2.2.1 y5.2.2.2.2.1 y5.2.2.2.2.2.1 y5.2.2.2.2.2.2 plan_law plan_count plan_bells plan_kinds plan_comes plan_wants plan_outs)) (va_runV (As := [.ref q_plan, .int y1, .int (y3 + 1), .int p_minute]) (rest := []) ⟨hx, hb, hml, hown, hts⟩ (c_Co_run l D cI cJ cS q_t q_plan q_t_line q_t_servedAt q_t_line_row q_plan_kinds q_plan_comes q_plan_wants q_plan_outs t_serving t_awaited t_turnable t_doneAt t_line_size t_line_row t_servedAt plan_law plan_count plan_bells plan_kinds plan_comes plan_wants plan_outs y1 (y3 + 1) p_minute y5 h6 _) (cwV 4 hts gX1_runThrough_X1_run rfl rfl rfl (by decide +kernel) ⟨(Nat.le_of_ble_eq_true rfl), (Nat.le_of_ble_eq_true rfl)⟩) (pre_V hK hP hD [0, 1, 2, 3, 4, 5, 6, 7, 8] rfl rfl rfl rfl) rfl rfl hl.1 rfl (lv_room (Nat.le_of_ble_eq_true rfl)) dX1_runThrough_13 ⟨Nat.zero_le _, Nat.zero_le _⟩) hP hD hS hA [0, 1, 2, 3, 4, 5, 6, 7, 8] [] [0, 1, 2, 3, 4, 5, 6, 7, 8] rfl rfl rfl (by decide) rfl rfl (fun H locs hP hD hS => ?_)
  have hM := (Option.some.inj hM)
  subst hM
  exact rt_v hx hb hr hlocks hP hD hS dX1_runThrough_16
/-! ===== TurnQueue$Counter.waitOfAll ===== -/
abbrev w_Co_waitOfAll (cI cJ cS : ClassId) (q_t : Nat) (q_plan : Nat) (q_t_line : Nat) (q_t_servedAt : Nat) (q_t_line_row : Nat) (q_plan_kinds : Nat) (q_plan_comes : Nat) (q_plan_wants : Nat) (q_plan_outs : Nat) (t_serving : Int32) (t_awaited : Int32) (t_turnable : Int64) (t_doneAt : Int32) (t_line_size : Int32) (t_line_row : Nat → Int32) (t_servedAt : Nat → Int32) (plan_law : Int32) (plan_count : Int32) (plan_bells : Int64) (plan_kinds : Nat → Int32) (plan_comes : Nat → Int32) (plan_wants : Nat → Int32) (plan_outs : Nat → Int32) : va_W := [(q_t, .inr (1, [.ref q_t_line, .ref q_t_servedAt, .int t_serving, .int t_awaited, .long t_turnable, .int t_doneAt])), (q_t_line, .inr (2, [.ref q_t_line_row, .int t_line_size])), (q_t_line_row, ar cI 7 t_line_row), (q_t_servedAt, ar cI 7 t_servedAt), (q_plan, .inr (3, [.int plan_law, .int plan_count, .long plan_bells, .ref q_plan_kinds, .ref q_plan_comes, .ref q_plan_wants, .ref q_plan_outs])), (q_plan_kinds, ar cI 7 plan_kinds), (q_plan_comes, ar cI 7 plan_comes), (q_plan_wants, ar cI 7 plan_wants), (q_plan_outs, ar cI 7 plan_outs)]
abbrev rm_Co_waitOfAll : Room := { frames := 4, cells := 0, slots := 0, locals := 96 }
noncomputable def Co_waitOfAll_b20 (plan_law : Int32) (plan_count : Int32) (plan_bells : Int64) (plan_kinds : Nat → Int32) (plan_comes : Nat → Int32) (plan_wants : Nat → Int32) (plan_outs : Nat → Int32) (x2 : Int32) (x3 : Int32) (t_serving : Int32) (t_awaited : Int32) (t_turnable : Int64) (t_doneAt : Int32) (t_line_size : Int32) (t_line_row : Nat → Int32) (t_servedAt : Nat → Int32) : Option ((Int32 × Int32 × Int32 × Int32 × Int64 × Int32 × Int32 × (Nat → Int32) × (Nat → Int32)) ⊕ (Int32 × Int32 × Int32 × Int64 × Int32 × Int32 × (Nat → Int32) × (Nat → Int32))) :=
  if plan_count ≤ x3 then
    some (.inr (x2, t_serving, t_awaited, t_turnable, t_doneAt, t_line_size, t_line_row, t_servedAt))
  else
    if ck x3 7 = true then
      if ck x3 7 = true then
        lt (x2 + ((t_servedAt x3.toNatClampNeg) - (plan_comes x3.toNatClampNeg))) fun y10 =>
        lt (x3 + 1) fun y11 =>
        some (.inl (y10, y11, t_serving, t_awaited, t_turnable, t_doneAt, t_line_size, t_line_row, t_servedAt))
      else none
    else none
noncomputable def Co_waitOfAll_s20 (plan_law : Int32) (plan_count : Int32) (plan_bells : Int64) (plan_kinds : Nat → Int32) (plan_comes : Nat → Int32) (plan_wants : Nat → Int32) (plan_outs : Nat → Int32) : (Int32 × Int32 × Int32 × Int32 × Int64 × Int32 × Int32 × (Nat → Int32) × (Nat → Int32)) → Option ((Int32 × Int32 × Int32 × Int32 × Int64 × Int32 × Int32 × (Nat → Int32) × (Nat → Int32)) ⊕ (Int32 × Int32 × Int32 × Int64 × Int32 × Int32 × (Nat → Int32) × (Nat → Int32))) := fun x => Co_waitOfAll_b20 plan_law plan_count plan_bells plan_kinds plan_comes plan_wants plan_outs x.1 x.2.1 x.2.2.1 x.2.2.2.1 x.2.2.2.2.1 x.2.2.2.2.2.1 x.2.2.2.2.2.2.1 x.2.2.2.2.2.2.2.1 x.2.2.2.2.2.2.2.2
noncomputable def Co_waitOfAll_l20 (plan_law : Int32) (plan_count : Int32) (plan_bells : Int64) (plan_kinds : Nat → Int32) (plan_comes : Nat → Int32) (plan_wants : Nat → Int32) (plan_outs : Nat → Int32) (x2 : Int32) (x3 : Int32) (t_serving : Int32) (t_awaited : Int32) (t_turnable : Int64) (t_doneAt : Int32) (t_line_size : Int32) (t_line_row : Nat → Int32) (t_servedAt : Nat → Int32) : Option (Int32 × Int32 × Int32 × Int64 × Int32 × Int32 × (Nat → Int32) × (Nat → Int32)) := fin (Co_waitOfAll_s20 plan_law plan_count plan_bells plan_kinds plan_comes plan_wants plan_outs) (x2, x3, t_serving, t_awaited, t_turnable, t_doneAt, t_line_size, t_line_row, t_servedAt)
noncomputable def Co_waitOfAll (plan_law : Int32) (plan_count : Int32) (plan_bells : Int64) (plan_kinds : Nat → Int32) (plan_comes : Nat → Int32) (plan_wants : Nat → Int32) (plan_outs : Nat → Int32) (t_serving : Int32) (t_awaited : Int32) (t_turnable : Int64) (t_doneAt : Int32) (t_line_size : Int32) (t_line_row : Nat → Int32) (t_servedAt : Nat → Int32) : Option (Int32 × Int32 × Int32 × Int64 × Int32 × Int32 × (Nat → Int32) × (Nat → Int32)) :=
  (Pl_everybody plan_count).bind fun y1 =>
  (Pl_everybody plan_count).bind fun y3 =>
  (Co_run y1 y3 199 plan_law plan_count plan_bells plan_kinds plan_comes plan_wants plan_outs t_serving t_awaited t_turnable t_doneAt t_line_size t_line_row t_servedAt).bind fun y5 =>
  Co_waitOfAll_l20 plan_law plan_count plan_bells plan_kinds plan_comes plan_wants plan_outs 0 0 y5.1 y5.2.1 y5.2.2.1 y5.2.2.2.1 y5.2.2.2.2.1 y5.2.2.2.2.2.1 y5.2.2.2.2.2.2
theorem Co_waitOfAll_l20_eq (plan_law : Int32) (plan_count : Int32) (plan_bells : Int64) (plan_kinds : Nat → Int32) (plan_comes : Nat → Int32) (plan_wants : Nat → Int32) (plan_outs : Nat → Int32) (x2 : Int32) (x3 : Int32) (t_serving : Int32) (t_awaited : Int32) (t_turnable : Int64) (t_doneAt : Int32) (t_line_size : Int32) (t_line_row : Nat → Int32) (t_servedAt : Nat → Int32) : Co_waitOfAll_l20 plan_law plan_count plan_bells plan_kinds plan_comes plan_wants plan_outs x2 x3 t_serving t_awaited t_turnable t_doneAt t_line_size t_line_row t_servedAt = (Co_waitOfAll_b20 plan_law plan_count plan_bells plan_kinds plan_comes plan_wants plan_outs x2 x3 t_serving t_awaited t_turnable t_doneAt t_line_size t_line_row t_servedAt).bind (sg (fin (Co_waitOfAll_s20 plan_law plan_count plan_bells plan_kinds plan_comes plan_wants plan_outs))) := by
  unfold Co_waitOfAll_l20
  exact fin_eq _ _
theorem Co_waitOfAll_l20_fd (plan_law : Int32) (plan_count : Int32) (plan_bells : Int64) (plan_kinds : Nat → Int32) (plan_comes : Nat → Int32) (plan_wants : Nat → Int32) (plan_outs : Nat → Int32) (x2 : Int32) (x3 : Int32) (t_serving : Int32) (t_awaited : Int32) (t_turnable : Int64) (t_doneAt : Int32) (t_line_size : Int32) (t_line_row : Nat → Int32) (t_servedAt : Nat → Int32) : fin (Co_waitOfAll_s20 plan_law plan_count plan_bells plan_kinds plan_comes plan_wants plan_outs) (x2, x3, t_serving, t_awaited, t_turnable, t_doneAt, t_line_size, t_line_row, t_servedAt) = Co_waitOfAll_l20 plan_law plan_count plan_bells plan_kinds plan_comes plan_wants plan_outs x2 x3 t_serving t_awaited t_turnable t_doneAt t_line_size t_line_row t_servedAt := rfl
set_option maxRecDepth 100000 in
set_option maxHeartbeats 4000000 in
theorem c_Co_waitOfAll (l : Launch) (D : va_G) (cI cJ cS : ClassId) (q_t q_plan q_t_line q_t_servedAt q_t_line_row q_plan_kinds q_plan_comes q_plan_wants q_plan_outs : Nat) (t_serving : Int32) (t_awaited : Int32) (t_turnable : Int64) (t_doneAt : Int32) (t_line_size : Int32) (t_line_row : Nat → Int32) (t_servedAt : Nat → Int32) (plan_law : Int32) (plan_count : Int32) (plan_bells : Int64) (plan_kinds : Nat → Int32) (plan_comes : Nat → Int32) (plan_wants : Nat → Int32) (plan_outs : Nat → Int32) (o : Int32 × Int32 × Int32 × Int64 × Int32 × Int32 × (Nat → Int32) × (Nat → Int32)) (hM : Co_waitOfAll plan_law plan_count plan_bells plan_kinds plan_comes plan_wants plan_outs t_serving t_awaited t_turnable t_doneAt t_line_size t_line_row t_servedAt = some o) : Ci l yX1_waitOfAll wsX1_waitOfAll rm_Co_waitOfAll D cI cJ cS [.ref q_t, .ref q_plan] (w_Co_waitOfAll cI cJ cS q_t q_plan q_t_line q_t_servedAt q_t_line_row q_plan_kinds q_plan_comes q_plan_wants q_plan_outs t_serving t_awaited t_turnable t_doneAt t_line_size t_line_row t_servedAt plan_law plan_count plan_bells plan_kinds plan_comes plan_wants plan_outs) (w_Co_waitOfAll cI cJ cS q_t q_plan q_t_line q_t_servedAt q_t_line_row q_plan_kinds q_plan_comes q_plan_wants q_plan_outs o.2.1 o.2.2.1 o.2.2.2.1 o.2.2.2.2.1 o.2.2.2.2.2.1 o.2.2.2.2.2.2.1 o.2.2.2.2.2.2.2 plan_law plan_count plan_bells plan_kinds plan_comes plan_wants plan_outs) o.1 := by
  refine Ci.of (cc := cX1_waitOfAll) (maxL := 4) (ret := (some .int)) (by decide) rfl (Nat.le_of_ble_eq_true rfl) ?_
  intro p e s m args below meth c A ls hE
  obtain ⟨hx, hb, hr, hml, hown, hts, hlocks, hK, hA, hP, hD, hS, hl⟩ := hE
  have hown : s.vm.findClass RX1 = some m.cls := hown
  have hl : lv_has ls 4 [(0, .ref q_t), (1, .ref q_plan)] := hl
  have iX3 : ∀ w ∈ u_ws RX3 TX3 7, w ∈ wsX1_waitOfAll := by decide +kernel
  have iX1 : ∀ w ∈ u_ws RX1 TX1 6, w ∈ wsX1_waitOfAll := by decide +kernel
  have k0 := hts (.fieldLink RX1 46 "TurnQueue$Plan" "count" "I") (by decide +kernel)
  have k1 := hts (.fieldLink RX1 18 "TurnQueue$Counter" "servedAt" "[I") (by decide +kernel)
  have k2 := hts (.fieldLink RX1 49 "TurnQueue$Plan" "comes" "[I") (by decide +kernel)
  have L20 : ∀ n : Nat, (∀ (x2 : Int32) (x3 : Int32) (t_serving : Int32) (t_awaited : Int32) (t_turnable : Int64) (t_doneAt : Int32) (t_line_size : Int32) (t_line_row : Nat → Int32) (t_servedAt : Nat → Int32), itr (Co_waitOfAll_s20 plan_law plan_count plan_bells plan_kinds plan_comes plan_wants plan_outs) n (x2, x3, t_serving, t_awaited, t_turnable, t_doneAt, t_line_size, t_line_row, t_servedAt) = some o → ∀ (H : Heap) (locs : List Loc), va_P D vwCl (w_Co_waitOfAll cI cJ cS q_t q_plan q_t_line q_t_servedAt q_t_line_row q_plan_kinds q_plan_comes q_plan_wants q_plan_outs t_serving t_awaited t_turnable t_doneAt t_line_size t_line_row t_servedAt plan_law plan_count plan_bells plan_kinds plan_comes plan_wants plan_outs) H → va_D A (w_Co_waitOfAll cI cJ cS q_t q_plan q_t_line q_t_servedAt q_t_line_row q_plan_kinds q_plan_comes q_plan_wants q_plan_outs t_serving t_awaited t_turnable t_doneAt t_line_size t_line_row t_servedAt plan_law plan_count plan_bells plan_kinds plan_comes plan_wants plan_outs) → va_S A s.heap H locs → ∀ ls : Array Slot, lv_has ls 4 [(0, .ref q_t), (1, .ref q_plan), (2, .int x2), (3, .int x3)] → W p l e (headSpec wsX1_waitOfAll rm_Co_waitOfAll).room s m args below meth c H locs 0 0 (MQ below (CQi D (w_Co_waitOfAll cI cJ cS q_t q_plan q_t_line q_t_servedAt q_t_line_row q_plan_kinds q_plan_comes q_plan_wants q_plan_outs o.2.1 o.2.2.1 o.2.2.2.1 o.2.2.2.2.1 o.2.2.2.2.2.1 o.2.2.2.2.2.2.1 o.2.2.2.2.2.2.2 plan_law plan_count plan_bells plan_kinds plan_comes plan_wants plan_outs) A o.1) args s 0 0 A) (F0 m 20 ls [])) := by
    intro n
    induction n with
    | zero => exact fun _ _ _ _ _ _ _ _ _ hM => (itr_0 hM).elim
    | succ n ih =>
      intro x2 x3 t_serving t_awaited t_turnable t_doneAt t_line_size t_line_row t_servedAt hM H locs hP hD hS ls hl
      have hM : (Co_waitOfAll_b20 plan_law plan_count plan_bells plan_kinds plan_comes plan_wants plan_outs x2 x3 t_serving t_awaited t_turnable t_doneAt t_line_size t_line_row t_servedAt).bind (sg (itr (Co_waitOfAll_s20 plan_law plan_count plan_bells plan_kinds plan_comes plan_wants plan_outs) n)) = some o := hM
      unfold Co_waitOfAll_b20 at hM
      refine lv_iload_n hx hb dX1_waitOfAll_20 rfl (lv_at hl 3 rfl) ?_
      refine lv_aload_n hx hb dX1_waitOfAll_21 rfl (lv_at hl 1 rfl) ?_
      refine va_get (ci := 3) (v := .int plan_count) (C := RX3) (T := TX3) (N := 7) hx hb hts iX3 hown hK.1 hP 4 rfl rfl 1 (Nat.le_of_ble_eq_true rfl) k0 (fun _ h9 => h9) rfl dX1_waitOfAll_22 ?_
      refine lv_icmp_ge (tgt := 50) hx hb dX1_waitOfAll_25 (by decide) (fun c7 => ?_) (fun c7 => ?_)
      · have hM := (s_if hM).1 c7
        refine lv_iload_n hx hb dX1_waitOfAll_50 rfl (lv_at hl 2 rfl) ?_
        have hM := (Option.some.inj (s_rt hM))
        subst hM
        exact rt_i hx hb hr hlocks hP hD hS dX1_waitOfAll_51
      · have hM := (s_if hM).2 c7
        refine lv_iload_n hx hb dX1_waitOfAll_28 rfl (lv_at hl 2 rfl) ?_
        refine lv_aload_n hx hb dX1_waitOfAll_29 rfl (lv_at hl 0 rfl) ?_
        refine va_get (ci := 1) (v := .ref q_t_servedAt) (C := RX1) (T := TX1) (N := 6) hx hb hts iX1 hown hK.1 hP 0 rfl rfl 1 (Nat.le_of_ble_eq_true rfl) k1 (fun _ h9 => h9) rfl dX1_waitOfAll_30 ?_
        refine lv_iload_n hx hb dX1_waitOfAll_33 rfl (lv_at hl 3 rfl) ?_
        obtain ⟨h8, hM⟩ := s_ck hM
        refine va_iald hx hb hK.1 hP 3 0 rfl rfl h8 dX1_waitOfAll_34 ?_
        refine lv_aload_n hx hb dX1_waitOfAll_35 rfl (lv_at hl 1 rfl) ?_
        refine va_get (ci := 3) (v := .ref q_plan_comes) (C := RX3) (T := TX3) (N := 7) hx hb hts iX3 hown hK.1 hP 4 rfl rfl 4 (Nat.le_of_ble_eq_true rfl) k2 (fun _ h9 => h9) rfl dX1_waitOfAll_36 ?_
        refine lv_iload_n hx hb dX1_waitOfAll_39 rfl (lv_at hl 3 rfl) ?_
        obtain ⟨h9, hM⟩ := s_ck hM
        refine va_iald hx hb hK.1 hP 6 0 rfl rfl h9 dX1_waitOfAll_40 ?_
        refine lv_isub hx hb dX1_waitOfAll_41 ?_
        refine lv_iadd hx hb dX1_waitOfAll_42 ?_
        refine lv_topi (fun y10 ey10 => ?_)
        have hM := s_lt hM y10 ey10
        refine lv_istore_n (lv' := [(2, .int y10), (0, .ref q_t), (1, .ref q_plan), (3, .int x3)]) hx hb dX1_waitOfAll_43 rfl hl (Nat.le_of_ble_eq_true rfl) rfl (fun ls hl => ?_)
        obtain ⟨y11, ey11⟩ : ∃ y : Int32, y = x3 + 1 := ⟨_, rfl⟩
        have hM := s_lt hM y11 ey11
        refine lv_iinc (v := y11) (lv' := [(3, .int y11), (2, .int y10), (0, .ref q_t), (1, .ref q_plan)]) hx hb dX1_waitOfAll_44 hl (k := 3) rfl (by rw [ey11]; rfl) (Nat.le_of_ble_eq_true rfl) rfl (fun ls hl => ?_)
        refine lv_goto (tgt := 20) hx hb dX1_waitOfAll_47 (by decide) ?_
        exact ih y10 y11 t_serving t_awaited t_turnable t_doneAt t_line_size t_line_row t_servedAt (s_jp hM) _ _ hP hD hS _ (lv_sub hl [2, 3, 1, 0] rfl)
  have J20 : ∀ (x2 : Int32) (x3 : Int32) (t_serving : Int32) (t_awaited : Int32) (t_turnable : Int64) (t_doneAt : Int32) (t_line_size : Int32) (t_line_row : Nat → Int32) (t_servedAt : Nat → Int32), Co_waitOfAll_l20 plan_law plan_count plan_bells plan_kinds plan_comes plan_wants plan_outs x2 x3 t_serving t_awaited t_turnable t_doneAt t_line_size t_line_row t_servedAt = some o → ∀ (H : Heap) (locs : List Loc), va_P D vwCl (w_Co_waitOfAll cI cJ cS q_t q_plan q_t_line q_t_servedAt q_t_line_row q_plan_kinds q_plan_comes q_plan_wants q_plan_outs t_serving t_awaited t_turnable t_doneAt t_line_size t_line_row t_servedAt plan_law plan_count plan_bells plan_kinds plan_comes plan_wants plan_outs) H → va_D A (w_Co_waitOfAll cI cJ cS q_t q_plan q_t_line q_t_servedAt q_t_line_row q_plan_kinds q_plan_comes q_plan_wants q_plan_outs t_serving t_awaited t_turnable t_doneAt t_line_size t_line_row t_servedAt plan_law plan_count plan_bells plan_kinds plan_comes plan_wants plan_outs) → va_S A s.heap H locs → ∀ ls : Array Slot, lv_has ls 4 [(0, .ref q_t), (1, .ref q_plan), (2, .int x2), (3, .int x3)] → W p l e (headSpec wsX1_waitOfAll rm_Co_waitOfAll).room s m args below meth c H locs 0 0 (MQ below (CQi D (w_Co_waitOfAll cI cJ cS q_t q_plan q_t_line q_t_servedAt q_t_line_row q_plan_kinds q_plan_comes q_plan_wants q_plan_outs o.2.1 o.2.2.1 o.2.2.2.1 o.2.2.2.2.1 o.2.2.2.2.2.1 o.2.2.2.2.2.2.1 o.2.2.2.2.2.2.2 plan_law plan_count plan_bells plan_kinds plan_comes plan_wants plan_outs) A o.1) args s 0 0 A) (F0 m 20 ls []) := by
    intro x2 x3 t_serving t_awaited t_turnable t_doneAt t_line_size t_line_row t_servedAt hM
    unfold Co_waitOfAll_l20 at hM
    obtain ⟨n0, hM⟩ := fin_some hM
    exact (L20 n0) x2 x3 t_serving t_awaited t_turnable t_doneAt t_line_size t_line_row t_servedAt hM
  unfold Co_waitOfAll at hM
  refine lv_aload_n hx hb dX1_waitOfAll_0 rfl (lv_at hl 0 rfl) ?_
  refine lv_aload_n hx hb dX1_waitOfAll_1 rfl (lv_at hl 1 rfl) ?_
  refine lv_aload_n hx hb dX1_waitOfAll_2 rfl (lv_at hl 1 rfl) ?_
  obtain ⟨y1, h2, hM⟩ := o_bd hM
  refine af_i (ws2 := (w_Co_waitOfAll cI cJ cS q_t q_plan q_t_line q_t_servedAt q_t_line_row q_plan_kinds q_plan_comes q_plan_wants q_plan_outs t_serving t_awaited t_turnable t_doneAt t_line_size t_line_row t_servedAt plan_law plan_count plan_bells plan_kinds plan_comes plan_wants plan_outs)) (va_runV (As := []) (rest := [.ref q_plan, .ref q_t]) ⟨hx, hb, hml, hown, hts⟩ (c_Pl_everybody l D cI cJ cS q_plan q_plan_kinds q_plan_comes q_plan_wants q_plan_outs plan_law plan_count plan_bells y1 h2 _) (cwV 0 hts gX1_waitOfAll_X3_everybody rfl rfl rfl (by decide +kernel) ⟨(Nat.le_of_ble_eq_true rfl), (Nat.le_of_ble_eq_true rfl)⟩) (pre_V hK hP hD [4] rfl rfl rfl rfl) rfl rfl hl.1 rfl (lv_room (Nat.le_of_ble_eq_true rfl)) dX1_waitOfAll_3 ⟨Nat.zero_le _, Nat.zero_le _⟩) hP hD hS hA [4] [0, 1, 2, 3, 5, 6, 7, 8] [0, 1, 2, 3, 8, 4, 5, 6, 7] rfl rfl rfl (by decide) rfl rfl (fun H locs hP hD hS => ?_)
  refine lv_aload_n hx hb dX1_waitOfAll_6 rfl (lv_at hl 1 rfl) ?_
  obtain ⟨y3, h4, hM⟩ := o_bd hM
  refine af_i (ws2 := (w_Co_waitOfAll cI cJ cS q_t q_plan q_t_line q_t_servedAt q_t_line_row q_plan_kinds q_plan_comes q_plan_wants q_plan_outs t_serving t_awaited t_turnable t_doneAt t_line_size t_line_row t_servedAt plan_law plan_count plan_bells plan_kinds plan_comes plan_wants plan_outs)) (va_runV (As := []) (rest := [.int y1, .ref q_plan, .ref q_t]) ⟨hx, hb, hml, hown, hts⟩ (c_Pl_everybody l D cI cJ cS q_plan q_plan_kinds q_plan_comes q_plan_wants q_plan_outs plan_law plan_count plan_bells y3 h4 _) (cwV 0 hts gX1_waitOfAll_X3_everybody rfl rfl rfl (by decide +kernel) ⟨(Nat.le_of_ble_eq_true rfl), (Nat.le_of_ble_eq_true rfl)⟩) (pre_V hK hP hD [4] rfl rfl rfl rfl) rfl rfl hl.1 rfl (lv_room (Nat.le_of_ble_eq_true rfl)) dX1_waitOfAll_7 ⟨Nat.zero_le _, Nat.zero_le _⟩) hP hD hS hA [4] [0, 1, 2, 3, 5, 6, 7, 8] [0, 1, 2, 3, 8, 4, 5, 6, 7] rfl rfl rfl (by decide) rfl rfl (fun H locs hP hD hS => ?_)
  refine lv_sipush (v := 199) hx hb dX1_waitOfAll_10 (by decide) ?_
  obtain ⟨y5, h6, hM⟩ := o_bd hM
  refine af_v (ws2 := (w_Co_waitOfAll cI cJ cS q_t q_plan q_t_line q_t_servedAt q_t_line_row q_plan_kinds q_plan_comes q_plan_wants q_plan_outs y5.1 y5.2.1 y5.2.2.1 y5.2.2.2.1 y5.2.2.2.2.1 y5.2.2.2.2.2.1 y5.2.2.2.2.2.2 plan_law plan_count plan_bells plan_kinds plan_comes plan_wants plan_outs)) (va_runV (As := [.ref q_plan, .int y1, .int y3, .int 199]) (rest := []) ⟨hx, hb, hml, hown, hts⟩ (c_Co_run l D cI cJ cS q_t q_plan q_t_line q_t_servedAt q_t_line_row q_plan_kinds q_plan_comes q_plan_wants q_plan_outs t_serving t_awaited t_turnable t_doneAt t_line_size t_line_row t_servedAt plan_law plan_count plan_bells plan_kinds plan_comes plan_wants plan_outs y1 y3 199 y5 h6 _) (cwV 4 hts gX1_waitOfAll_X1_run rfl rfl rfl (by decide +kernel) ⟨(Nat.le_of_ble_eq_true rfl), (Nat.le_of_ble_eq_true rfl)⟩) (pre_V hK hP hD [0, 1, 2, 3, 4, 5, 6, 7, 8] rfl rfl rfl rfl) rfl rfl hl.1 rfl (lv_room (Nat.le_of_ble_eq_true rfl)) dX1_waitOfAll_13 ⟨Nat.zero_le _, Nat.zero_le _⟩) hP hD hS hA [0, 1, 2, 3, 4, 5, 6, 7, 8] [] [0, 1, 2, 3, 4, 5, 6, 7, 8] rfl rfl rfl (by decide) rfl rfl (fun H locs hP hD hS => ?_)
  refine lv_iconst (v := 0) hx hb dX1_waitOfAll_16 (by decide) ?_
  refine lv_istore_n (lv' := [(2, .int 0), (0, .ref q_t), (1, .ref q_plan)]) hx hb dX1_waitOfAll_17 rfl hl (Nat.le_of_ble_eq_true rfl) rfl (fun ls hl => ?_)
  refine lv_iconst (v := 0) hx hb dX1_waitOfAll_18 (by decide) ?_
  refine lv_istore_n (lv' := [(3, .int 0), (2, .int 0), (0, .ref q_t), (1, .ref q_plan)]) hx hb dX1_waitOfAll_19 rfl hl (Nat.le_of_ble_eq_true rfl) rfl (fun ls hl => ?_)
  exact J20 0 0 y5.1 y5.2.1 y5.2.2.1 y5.2.2.2.1 y5.2.2.2.2.1 y5.2.2.2.2.2.1 y5.2.2.2.2.2.2 hM _ _ hP hD hS _ (lv_sub hl [2, 3, 1, 0] rfl)

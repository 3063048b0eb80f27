/-! ===== TurnQueue.day ===== -/
abbrev w_Tq_day (cI cJ cS : ClassId) (q_t : Nat) (q_t_plan : Nat) (q_t_counter : Nat) (q_t_choices : Nat) (q_t_ringers : Nat) (q_t_readings : Nat) (q_t_sheets : Nat) (q_t_plan_kinds : Nat) (q_t_plan_comes : Nat) (q_t_plan_wants : Nat) (q_t_plan_outs : Nat) (q_t_readings_persons : Nat) (q_t_readings_minutes : Nat) (q_t_sh0 : Nat) (q_t_sh0_cells : Nat) (q_t_sh1 : Nat) (q_t_sh1_cells : Nat) (q_t_sh2 : Nat) (q_t_sh2_cells : Nat) (q_t_sh3 : Nat) (q_t_sh3_cells : Nat) (t_traced : Int32) (t_lastFault : Int32) (t_plan_law : Int32) (t_plan_count : Int32) (t_plan_bells : Int64) (t_plan_kinds : Nat → Int32) (t_plan_comes : Nat → Int32) (t_plan_wants : Nat → Int32) (t_plan_outs : Nat → Int32) (t_readings_count : Int32) (t_sh_lane : Nat → Int32) (t_sh_size : Nat → Int32) (t_sh_cells : Nat → Nat → Int32) : va_W := [(q_t, .inr (7, [.ref q_t_plan, .ref q_t_counter, .ref q_t_choices, .ref q_t_ringers, .ref q_t_readings, .ref q_t_sheets, .int t_traced, .int t_lastFault])), (q_t_plan, .inr (3, [.int t_plan_law, .int t_plan_count, .long t_plan_bells, .ref q_t_plan_kinds, .ref q_t_plan_comes, .ref q_t_plan_wants, .ref q_t_plan_outs])), (q_t_plan_kinds, ar cI 7 t_plan_kinds), (q_t_plan_comes, ar cI 7 t_plan_comes), (q_t_plan_wants, ar cI 7 t_plan_wants), (q_t_plan_outs, ar cI 7 t_plan_outs), (q_t_readings, .inr (4, [.ref q_t_readings_persons, .ref q_t_readings_minutes, .int t_readings_count])), (q_t_sheets, arS cS 4 (a4 q_t_sh0 q_t_sh1 q_t_sh2 q_t_sh3)), (q_t_sh0, .inr (6, [.ref q_t_sh0_cells, .int (t_sh_lane 0), .int (t_sh_size 0)])), (q_t_sh0_cells, ar cI 60 (t_sh_cells 0)), (q_t_sh1, .inr (6, [.ref q_t_sh1_cells, .int (t_sh_lane 1), .int (t_sh_size 1)])), (q_t_sh1_cells, ar cI 60 (t_sh_cells 1)), (q_t_sh2, .inr (6, [.ref q_t_sh2_cells, .int (t_sh_lane 2), .int (t_sh_size 2)])), (q_t_sh2_cells, ar cI 60 (t_sh_cells 2)), (q_t_sh3, .inr (6, [.ref q_t_sh3_cells, .int (t_sh_lane 3), .int (t_sh_size 3)])), (q_t_sh3_cells, ar cI 60 (t_sh_cells 3))]
abbrev rm_Tq_day : Room := { frames := 2, cells := 0, slots := 0, locals := 46 }
noncomputable def Tq_day (p_sheet : Int32) (p_lane : Int32) (p_i : Int32) (p_n : Int32) (t_sh_lane : Nat → Int32) (t_sh_size : Nat → Int32) (t_sh_cells : Nat → Nat → Int32) (t_lastFault : Int32) (t_plan_law : Int32) (t_plan_count : Int32) (t_plan_bells : Int64) (t_plan_kinds : Nat → Int32) (t_plan_comes : Nat → Int32) (t_plan_wants : Nat → Int32) (t_plan_outs : Nat → Int32) (t_readings_count : Int32) : Option (Int32 × Int32 × Int32 × Int32 × Int64 × (Nat → Int32) × (Nat → Int32) × (Nat → Int32) × (Nat → Int32) × Int32) :=
  (Tq_isSheet p_sheet).bind fun y1 =>
  if y1 = 0 then
    (Tq_faultless (-1) t_lastFault).bind fun y38 =>
    some (y38.1, y38.2, t_plan_law, t_plan_count, t_plan_bells, t_plan_kinds, t_plan_comes, t_plan_wants, t_plan_outs, t_readings_count)
  else
    (Tq_isLane p_lane).bind fun y4 =>
    if y4 = 0 then
      (Tq_faultless (-2) t_lastFault).bind fun y36 =>
      some (y36.1, y36.2, t_plan_law, t_plan_count, t_plan_bells, t_plan_kinds, t_plan_comes, t_plan_wants, t_plan_outs, t_readings_count)
    else
      if ck p_sheet 4 = true then
        lt p_sheet.toNatClampNeg fun j8 =>
        (Sh_isOfAnother p_lane (t_sh_lane j8)).bind fun y9 =>
        if y9 = 0 then
          (Sh_hasNothing (t_sh_lane j8)).bind fun y12 =>
          if y12 = 0 then
            if 0 ≤ p_n then
              (Sh_holds p_i p_n (t_sh_size j8)).bind fun y16 =>
              if y16 = 0 then
                (Tq_faulted 3 t_lastFault).bind fun y28 =>
                some (y28.1, y28.2, t_plan_law, t_plan_count, t_plan_bells, t_plan_kinds, t_plan_comes, t_plan_wants, t_plan_outs, t_readings_count)
              else
                (Te_firstFault p_i p_n (t_sh_size j8) (t_sh_cells j8)).bind fun y19 =>
                if y19 = (-9) then
                  (Te_readInto p_i p_n (t_sh_size j8) (t_sh_cells j8) t_plan_law t_plan_count t_plan_bells t_plan_kinds t_plan_comes t_plan_wants t_plan_outs).bind fun y22 =>
                  (Tq_faultless y22.2.1 t_lastFault).bind fun y24 =>
                  some (y24.1, y24.2, y22.1, y22.2.1, y22.2.2.1, y22.2.2.2.1, y22.2.2.2.2.1, y22.2.2.2.2.2.1, y22.2.2.2.2.2.2, 0)
                else
                  (Tq_faultless ((-100) - y19) t_lastFault).bind fun y26 =>
                  some (y26.1, y26.2, t_plan_law, t_plan_count, t_plan_bells, t_plan_kinds, t_plan_comes, t_plan_wants, t_plan_outs, t_readings_count)
            else
              (Tq_faulted 4 t_lastFault).bind fun y30 =>
              some (y30.1, y30.2, t_plan_law, t_plan_count, t_plan_bells, t_plan_kinds, t_plan_comes, t_plan_wants, t_plan_outs, t_readings_count)
          else
            (Tq_faulted 1 t_lastFault).bind fun y32 =>
            some (y32.1, y32.2, t_plan_law, t_plan_count, t_plan_bells, t_plan_kinds, t_plan_comes, t_plan_wants, t_plan_outs, t_readings_count)
        else
          (Tq_faulted 2 t_lastFault).bind fun y34 =>
          some (y34.1, y34.2, t_plan_law, t_plan_count, t_plan_bells, t_plan_kinds, t_plan_comes, t_plan_wants, t_plan_outs, t_readings_count)
      else none
set_option maxRecDepth 100000 in
set_option maxHeartbeats 4000000 in
theorem c_Tq_day (l : Launch) (D : va_G) (cI cJ cS : ClassId) (q_t q_t_plan q_t_counter q_t_choices q_t_ringers q_t_readings q_t_sheets q_t_plan_kinds q_t_plan_comes q_t_plan_wants q_t_plan_outs q_t_readings_persons q_t_readings_minutes q_t_sh0 q_t_sh0_cells q_t_sh1 q_t_sh1_cells q_t_sh2 q_t_sh2_cells q_t_sh3 q_t_sh3_cells : Nat) (t_traced : Int32) (t_lastFault : Int32) (t_plan_law : Int32) (t_plan_count : Int32) (t_plan_bells : Int64) (t_plan_kinds : Nat → Int32) (t_plan_comes : Nat → Int32) (t_plan_wants : Nat → Int32) (t_plan_outs : Nat → Int32) (t_readings_count : Int32) (t_sh_lane : Nat → Int32) (t_sh_size : Nat → Int32) (t_sh_cells : Nat → Nat → Int32) (p_sheet : Int32) (p_lane : Int32) (p_i : Int32) (p_n : Int32) (o : Int32 × Int32 × Int32 × Int32 × Int64 × (Nat → Int32) × (Nat → Int32) × (Nat → Int32) × (Nat → Int32) × Int32) (hM : Tq_day p_sheet p_lane p_i p_n t_sh_lane t_sh_size t_sh_cells t_lastFault t_plan_law t_plan_count t_plan_bells t_plan_kinds t_plan_comes t_plan_wants t_plan_outs t_readings_count = some o) : Ci l yX8_day wsX8_day rm_Tq_day D cI cJ cS [.ref q_t, .int p_sheet, .int p_lane, .int p_i, .int p_n] (w_Tq_day cI cJ cS q_t q_t_plan q_t_counter q_t_choices q_t_ringers q_t_readings q_t_sheets q_t_plan_kinds q_t_plan_comes q_t_plan_wants q_t_plan_outs q_t_readings_persons q_t_readings_minutes q_t_sh0 q_t_sh0_cells q_t_sh1 q_t_sh1_cells q_t_sh2 q_t_sh2_cells q_t_sh3 q_t_sh3_cells t_traced t_lastFault t_plan_law t_plan_count t_plan_bells t_plan_kinds t_plan_comes t_plan_wants t_plan_outs t_readings_count t_sh_lane t_sh_size t_sh_cells) (w_Tq_day cI cJ cS q_t q_t_plan q_t_counter q_t_choices q_t_ringers q_t_readings q_t_sheets q_t_plan_kinds q_t_plan_comes q_t_plan_wants q_t_plan_outs q_t_readings_persons q_t_readings_minutes q_t_sh0 q_t_sh0_cells q_t_sh1 q_t_sh1_cells q_t_sh2 q_t_sh2_cells q_t_sh3 q_t_sh3_cells t_traced o.2.1 o.2.2.1 o.2.2.2.1 o.2.2.2.2.1 o.2.2.2.2.2.1 o.2.2.2.2.2.2.1 o.2.2.2.2.2.2.2.1 o.2.2.2.2.2.2.2.2.1 o.2.2.2.2.2.2.2.2.2 t_sh_lane t_sh_size t_sh_cells) o.1 := by
  refine Ci.of (cc := cX8_day) (maxL := 7) (ret := (some .int)) (by decide) rfl (Nat.le_of_ble_eq_true rfl) ?_
  intro p e s m args below meth c A ls hE
  obtain ⟨hx, hb, hr, hml, hown, hts, hlocks, hK, hA, hP, hD, hS, hl⟩ := hE
  have hown : s.vm.findClass RX8 = some m.cls := hown
  have hl : lv_has ls 7 [(0, .ref q_t), (1, .int p_sheet), (2, .int p_lane), (3, .int p_i), (4, .int p_n)] := hl
  have iX8 : ∀ w ∈ u_ws RX8 TX8 8, w ∈ wsX8_day := by decide +kernel
  have iX4 : ∀ w ∈ u_ws RX4 TX4 3, w ∈ wsX8_day := by decide +kernel
  have iX3 : ∀ w ∈ u_ws RX3 TX3 7, w ∈ wsX8_day := by decide +kernel
  have k0 := hts (.fieldLink RX8 48 "TurnQueue" "sheets" "[LTurnQueue$Sheet;") (by decide +kernel)
  have k1 := hts (.fieldLink RX8 12 "TurnQueue" "plan" "LTurnQueue$Plan;") (by decide +kernel)
  have k2 := hts (.fieldLink RX8 42 "TurnQueue" "readings" "LTurnQueue$Readings;") (by decide +kernel)
  have k3 := hts (.fieldLink RX8 95 "TurnQueue$Readings" "count" "I") (by decide +kernel)
  have k4 := hts (.fieldLink RX8 98 "TurnQueue$Plan" "count" "I") (by decide +kernel)
  unfold Tq_day at hM
  refine lv_iload_n hx hb dX8_day_0 rfl (lv_at hl 1 rfl) ?_
  obtain ⟨y1, h2, hM⟩ := o_bd hM
  refine af_i (ws2 := (w_Tq_day cI cJ cS q_t q_t_plan q_t_counter q_t_choices q_t_ringers q_t_readings q_t_sheets q_t_plan_kinds q_t_plan_comes q_t_plan_wants q_t_plan_outs q_t_readings_persons q_t_readings_minutes q_t_sh0 q_t_sh0_cells q_t_sh1 q_t_sh1_cells q_t_sh2 q_t_sh2_cells q_t_sh3 q_t_sh3_cells t_traced t_lastFault t_plan_law t_plan_count t_plan_bells t_plan_kinds t_plan_comes t_plan_wants t_plan_outs t_readings_count t_sh_lane t_sh_size t_sh_cells)) (va_runS (As := [.int p_sheet]) (rest := []) ⟨hx, hb, hml, hown, hts⟩ (c_Tq_isSheet l D cI cJ cS p_sheet y1 h2 _) (va_cwS 1 hts gX8_day_X8_isSheet rfl rfl rfl (by decide +kernel) ⟨(Nat.le_of_ble_eq_true rfl), (Nat.le_of_ble_eq_true rfl)⟩) (pre_S hK hP hD [] rfl rfl) rfl rfl hl.1 rfl (lv_room (Nat.le_of_ble_eq_true rfl)) dX8_day_1 ⟨Nat.zero_le _, Nat.zero_le _⟩) hP hD hS hA [] [0, 1, 2, 3, 4, 5, 6, 7, 8, 9, 10, 11, 12, 13, 14, 15] [0, 1, 2, 3, 4, 5, 6, 7, 8, 9, 10, 11, 12, 13, 14, 15] rfl rfl rfl (by decide) rfl rfl (fun H locs hP hD hS => ?_)
  refine lv_if_ne (tgt := 13) hx hb dX8_day_4 (by decide) (fun c3 => ?_) (fun c3 => ?_)
  · have hM := (o_if hM).2 c3
    refine lv_iload_n hx hb dX8_day_13 rfl (lv_at hl 2 rfl) ?_
    obtain ⟨y4, h5, hM⟩ := o_bd hM
    refine af_i (ws2 := (w_Tq_day cI cJ cS q_t q_t_plan q_t_counter q_t_choices q_t_ringers q_t_readings q_t_sheets q_t_plan_kinds q_t_plan_comes q_t_plan_wants q_t_plan_outs q_t_readings_persons q_t_readings_minutes q_t_sh0 q_t_sh0_cells q_t_sh1 q_t_sh1_cells q_t_sh2 q_t_sh2_cells q_t_sh3 q_t_sh3_cells t_traced t_lastFault t_plan_law t_plan_count t_plan_bells t_plan_kinds t_plan_comes t_plan_wants t_plan_outs t_readings_count t_sh_lane t_sh_size t_sh_cells)) (va_runS (As := [.int p_lane]) (rest := []) ⟨hx, hb, hml, hown, hts⟩ (c_Tq_isLane l D cI cJ cS p_lane y4 h5 _) (va_cwS 1 hts gX8_day_X8_isLane rfl rfl rfl (by decide +kernel) ⟨(Nat.le_of_ble_eq_true rfl), (Nat.le_of_ble_eq_true rfl)⟩) (pre_S hK hP hD [] rfl rfl) rfl rfl hl.1 rfl (lv_room (Nat.le_of_ble_eq_true rfl)) dX8_day_14 ⟨Nat.zero_le _, Nat.zero_le _⟩) hP hD hS hA [] [0, 1, 2, 3, 4, 5, 6, 7, 8, 9, 10, 11, 12, 13, 14, 15] [0, 1, 2, 3, 4, 5, 6, 7, 8, 9, 10, 11, 12, 13, 14, 15] rfl rfl rfl (by decide) rfl rfl (fun H locs hP hD hS => ?_)
    refine lv_if_ne (tgt := 27) hx hb dX8_day_17 (by decide) (fun c6 => ?_) (fun c6 => ?_)
    · have hM := (o_if hM).2 c6
      refine lv_aload_n hx hb dX8_day_27 rfl (lv_at hl 0 rfl) ?_
      refine va_get (ci := 7) (v := .ref q_t_sheets) (C := RX8) (T := TX8) (N := 8) hx hb hts iX8 hown hK.1 hP 0 rfl rfl 5 (Nat.le_of_ble_eq_true rfl) k0 (fun _ h9 => h9) rfl dX8_day_28 ?_
      refine lv_iload_n hx hb dX8_day_31 rfl (lv_at hl 1 rfl) ?_
      obtain ⟨h7, hM⟩ := o_ck hM
      refine va_aldq hx hb hK.1 hP 7 2 rfl rfl h7 dX8_day_32 ?_
      obtain ⟨j8, ej8⟩ : ∃ y : Nat, y = p_sheet.toNatClampNeg := ⟨_, rfl⟩
      have hM := o_lt hM j8 ej8
      have hj8 : j8 < 4 := by rw [ej8]; exact ck_lt h7
      rw [← ej8]
      rcases (show j8 = 0 ∨ j8 = 1 ∨ j8 = 2 ∨ j8 = 3 by omega) with rfl | rfl | rfl | rfl
      · refine W.eq (g2 := F0 m 33 ls [.ref q_t_sh0]) rfl ?_
        refine lv_astore (lv' := [(5, .ref q_t_sh0), (0, .ref q_t), (1, .int p_sheet), (2, .int p_lane), (3, .int p_i), (4, .int p_n)]) hx hb dX8_day_33 hl (Nat.le_of_ble_eq_true rfl) rfl (fun ls hl => ?_)
        refine lv_aload hx hb dX8_day_35 (lv_at hl 0 rfl) ?_
        refine lv_iload_n hx hb dX8_day_37 rfl (lv_at hl 3 rfl) ?_
        obtain ⟨y9, h10, hM⟩ := o_bd hM
        refine af_i (ws2 := (w_Tq_day cI cJ cS q_t q_t_plan q_t_counter q_t_choices q_t_ringers q_t_readings q_t_sheets q_t_plan_kinds q_t_plan_comes q_t_plan_wants q_t_plan_outs q_t_readings_persons q_t_readings_minutes q_t_sh0 q_t_sh0_cells q_t_sh1 q_t_sh1_cells q_t_sh2 q_t_sh2_cells q_t_sh3 q_t_sh3_cells t_traced t_lastFault t_plan_law t_plan_count t_plan_bells t_plan_kinds t_plan_comes t_plan_wants t_plan_outs t_readings_count t_sh_lane t_sh_size t_sh_cells)) (va_runV (As := [.int p_lane]) (rest := []) ⟨hx, hb, hml, hown, hts⟩ (c_Sh_isOfAnother l D cI cJ cS q_t_sh0 q_t_sh0_cells (t_sh_lane 0) (t_sh_size 0) p_lane y9 h10 _) (cwV 1 hts gX8_day_X6_isOfAnother rfl rfl rfl (by decide +kernel) ⟨(Nat.le_of_ble_eq_true rfl), (Nat.le_of_ble_eq_true rfl)⟩) (pre_V hK hP hD [8] rfl rfl rfl rfl) rfl rfl hl.1 rfl (lv_room (Nat.le_of_ble_eq_true rfl)) dX8_day_38 ⟨Nat.zero_le _, Nat.zero_le _⟩) hP hD hS hA [8] [0, 1, 2, 3, 4, 5, 6, 7, 9, 10, 11, 12, 13, 14, 15] [0, 1, 2, 3, 4, 5, 6, 7, 15, 8, 9, 10, 11, 12, 13, 14] rfl rfl rfl (by decide) rfl rfl (fun H locs hP hD hS => ?_)
        refine lv_if_eq (tgt := 50) hx hb dX8_day_41 (by decide) (fun c11 => ?_) (fun c11 => ?_)
        · have hM := (o_if hM).1 c11
          refine lv_aload hx hb dX8_day_50 (lv_at hl 0 rfl) ?_
          obtain ⟨y12, h13, hM⟩ := o_bd hM
          refine af_i (ws2 := (w_Tq_day cI cJ cS q_t q_t_plan q_t_counter q_t_choices q_t_ringers q_t_readings q_t_sheets q_t_plan_kinds q_t_plan_comes q_t_plan_wants q_t_plan_outs q_t_readings_persons q_t_readings_minutes q_t_sh0 q_t_sh0_cells q_t_sh1 q_t_sh1_cells q_t_sh2 q_t_sh2_cells q_t_sh3 q_t_sh3_cells t_traced t_lastFault t_plan_law t_plan_count t_plan_bells t_plan_kinds t_plan_comes t_plan_wants t_plan_outs t_readings_count t_sh_lane t_sh_size t_sh_cells)) (va_runV (As := []) (rest := []) ⟨hx, hb, hml, hown, hts⟩ (c_Sh_hasNothing l D cI cJ cS q_t_sh0 q_t_sh0_cells (t_sh_lane 0) (t_sh_size 0) y12 h13 _) (cwV 0 hts gX8_day_X6_hasNothing rfl rfl rfl (by decide +kernel) ⟨(Nat.le_of_ble_eq_true rfl), (Nat.le_of_ble_eq_true rfl)⟩) (pre_V hK hP hD [8] rfl rfl rfl rfl) rfl rfl hl.1 rfl (lv_room (Nat.le_of_ble_eq_true rfl)) dX8_day_52 ⟨Nat.zero_le _, Nat.zero_le _⟩) hP hD hS hA [8] [0, 1, 2, 3, 4, 5, 6, 7, 9, 10, 11, 12, 13, 14, 15] [0, 1, 2, 3, 4, 5, 6, 7, 15, 8, 9, 10, 11, 12, 13, 14] rfl rfl rfl (by decide) rfl rfl (fun H locs hP hD hS => ?_)
          refine lv_if_eq (tgt := 64) hx hb dX8_day_55 (by decide) (fun c14 => ?_) (fun c14 => ?_)
          · have hM := (o_if hM).1 c14
            refine lv_iload hx hb dX8_day_64 (lv_at hl 5 rfl) ?_
            refine lv_if_ge (tgt := 75) hx hb dX8_day_66 (by decide) (fun c15 => ?_) (fun c15 => ?_)
            · have hM := (o_if hM).1 c15
              refine lv_aload hx hb dX8_day_75 (lv_at hl 0 rfl) ?_
              refine lv_iload_n hx hb dX8_day_77 rfl (lv_at hl 4 rfl) ?_
              refine lv_iload hx hb dX8_day_78 (lv_at hl 5 rfl) ?_
              obtain ⟨y16, h17, hM⟩ := o_bd hM
              refine af_i (ws2 := (w_Tq_day cI cJ cS q_t q_t_plan q_t_counter q_t_choices q_t_ringers q_t_readings q_t_sheets q_t_plan_kinds q_t_plan_comes q_t_plan_wants q_t_plan_outs q_t_readings_persons q_t_readings_minutes q_t_sh0 q_t_sh0_cells q_t_sh1 q_t_sh1_cells q_t_sh2 q_t_sh2_cells q_t_sh3 q_t_sh3_cells t_traced t_lastFault t_plan_law t_plan_count t_plan_bells t_plan_kinds t_plan_comes t_plan_wants t_plan_outs t_readings_count t_sh_lane t_sh_size t_sh_cells)) (va_runV (As := [.int p_i, .int p_n]) (rest := []) ⟨hx, hb, hml, hown, hts⟩ (c_Sh_holds l D cI cJ cS q_t_sh0 q_t_sh0_cells (t_sh_lane 0) (t_sh_size 0) p_i p_n y16 h17 _) (cwV 2 hts gX8_day_X6_holds rfl rfl rfl (by decide +kernel) ⟨(Nat.le_of_ble_eq_true rfl), (Nat.le_of_ble_eq_true rfl)⟩) (pre_V hK hP hD [8] rfl rfl rfl rfl) rfl rfl hl.1 rfl (lv_room (Nat.le_of_ble_eq_true rfl)) dX8_day_80 ⟨Nat.zero_le _, Nat.zero_le _⟩) hP hD hS hA [8] [0, 1, 2, 3, 4, 5, 6, 7, 9, 10, 11, 12, 13, 14, 15] [0, 1, 2, 3, 4, 5, 6, 7, 15, 8, 9, 10, 11, 12, 13, 14] rfl rfl rfl (by decide) rfl rfl (fun H locs hP hD hS => ?_)
              refine lv_if_ne (tgt := 92) hx hb dX8_day_83 (by decide) (fun c18 => ?_) (fun c18 => ?_)
              · have hM := (o_if hM).2 c18
                refine lv_aload hx hb dX8_day_92 (lv_at hl 0 rfl) ?_
                refine lv_iload_n hx hb dX8_day_94 rfl (lv_at hl 4 rfl) ?_
                refine lv_iload hx hb dX8_day_95 (lv_at hl 5 rfl) ?_
                obtain ⟨y19, h20, hM⟩ := o_bd hM
                refine af_i (ws2 := (w_Tq_day cI cJ cS q_t q_t_plan q_t_counter q_t_choices q_t_ringers q_t_readings q_t_sheets q_t_plan_kinds q_t_plan_comes q_t_plan_wants q_t_plan_outs q_t_readings_persons q_t_readings_minutes q_t_sh0 q_t_sh0_cells q_t_sh1 q_t_sh1_cells q_t_sh2 q_t_sh2_cells q_t_sh3 q_t_sh3_cells t_traced t_lastFault t_plan_law t_plan_count t_plan_bells t_plan_kinds t_plan_comes t_plan_wants t_plan_outs t_readings_count t_sh_lane t_sh_size t_sh_cells)) (va_runS (As := [.ref q_t_sh0, .int p_i, .int p_n]) (rest := []) ⟨hx, hb, hml, hown, hts⟩ (c_Te_firstFault l D cI cJ cS q_t_sh0 q_t_sh0_cells (t_sh_lane 0) (t_sh_size 0) (t_sh_cells 0) p_i p_n y19 h20 _) (va_cwS 3 hts gX8_day_X7_firstFault rfl rfl rfl (by decide +kernel) ⟨(Nat.le_of_ble_eq_true rfl), (Nat.le_of_ble_eq_true rfl)⟩) (pre_S hK hP hD [8, 9] rfl rfl) rfl rfl hl.1 rfl (lv_room (Nat.le_of_ble_eq_true rfl)) dX8_day_97 ⟨Nat.zero_le _, Nat.zero_le _⟩) hP hD hS hA [8, 9] [0, 1, 2, 3, 4, 5, 6, 7, 10, 11, 12, 13, 14, 15] [0, 1, 2, 3, 4, 5, 6, 7, 14, 15, 8, 9, 10, 11, 12, 13] rfl rfl rfl (by decide) rfl rfl (fun H locs hP hD hS => ?_)
                refine lv_istore (lv' := [(6, .int y19), (5, .ref q_t_sh0), (0, .ref q_t), (1, .int p_sheet), (2, .int p_lane), (3, .int p_i), (4, .int p_n)]) hx hb dX8_day_100 hl (Nat.le_of_ble_eq_true rfl) rfl (fun ls hl => ?_)
                refine lv_iload hx hb dX8_day_102 (lv_at hl 0 rfl) ?_
                refine lv_bipush (v := (-9)) hx hb dX8_day_104 (by decide) ?_
                refine lv_icmp_eq (tgt := 119) hx hb dX8_day_106 (by decide) (fun c21 => ?_) (fun c21 => ?_)
                · have hM := (o_if hM).1 c21
                  refine lv_aload_n hx hb dX8_day_119 rfl (lv_at hl 2 rfl) ?_
                  refine va_get (ci := 7) (v := .ref q_t_plan) (C := RX8) (T := TX8) (N := 8) hx hb hts iX8 hown hK.1 hP 0 rfl rfl 0 (Nat.le_of_ble_eq_true rfl) k1 (fun _ h9 => h9) rfl dX8_day_120 ?_
                  refine lv_aload hx hb dX8_day_123 (lv_at hl 1 rfl) ?_
                  refine lv_iload_n hx hb dX8_day_125 rfl (lv_at hl 5 rfl) ?_
                  refine lv_iload hx hb dX8_day_126 (lv_at hl 6 rfl) ?_
                  obtain ⟨y22, h23, hM⟩ := o_bd hM
                  refine af_v (ws2 := (w_Tq_day cI cJ cS q_t q_t_plan q_t_counter q_t_choices q_t_ringers q_t_readings q_t_sheets q_t_plan_kinds q_t_plan_comes q_t_plan_wants q_t_plan_outs q_t_readings_persons q_t_readings_minutes q_t_sh0 q_t_sh0_cells q_t_sh1 q_t_sh1_cells q_t_sh2 q_t_sh2_cells q_t_sh3 q_t_sh3_cells t_traced t_lastFault y22.1 y22.2.1 y22.2.2.1 y22.2.2.2.1 y22.2.2.2.2.1 y22.2.2.2.2.2.1 y22.2.2.2.2.2.2 t_readings_count t_sh_lane t_sh_size t_sh_cells)) (va_runS (As := [.ref q_t_plan, .ref q_t_sh0, .int p_i, .int p_n]) (rest := []) ⟨hx, hb, hml, hown, hts⟩ (c_Te_readInto l D cI cJ cS q_t_plan q_t_sh0 q_t_plan_kinds q_t_plan_comes q_t_plan_wants q_t_plan_outs q_t_sh0_cells t_plan_law t_plan_count t_plan_bells t_plan_kinds t_plan_comes t_plan_wants t_plan_outs (t_sh_lane 0) (t_sh_size 0) (t_sh_cells 0) p_i p_n y22 h23 _) (va_cwS 4 hts gX8_day_X7_readInto rfl rfl rfl (by decide +kernel) ⟨(Nat.le_of_ble_eq_true rfl), (Nat.le_of_ble_eq_true rfl)⟩) (pre_S hK hP hD [1, 2, 3, 4, 5, 8, 9] rfl rfl) rfl rfl hl.1 rfl (lv_room (Nat.le_of_ble_eq_true rfl)) dX8_day_128 ⟨Nat.zero_le _, Nat.zero_le _⟩) hP hD hS hA [1, 2, 3, 4, 5, 8, 9] [0, 6, 7, 10, 11, 12, 13, 14, 15] [0, 9, 10, 11, 12, 13, 1, 2, 14, 15, 3, 4, 5, 6, 7, 8] rfl rfl rfl (by decide) rfl rfl (fun H locs hP hD hS => ?_)
                  refine lv_aload_n hx hb dX8_day_131 rfl (lv_at hl 2 rfl) ?_
                  refine va_get (ci := 7) (v := .ref q_t_readings) (C := RX8) (T := TX8) (N := 8) hx hb hts iX8 hown hK.1 hP 0 rfl rfl 4 (Nat.le_of_ble_eq_true rfl) k2 (fun _ h9 => h9) rfl dX8_day_132 ?_
                  refine lv_iconst (v := 0) hx hb dX8_day_135 (by decide) ?_
                  refine va_put (ci := 4) (v := .int 0) (ty := .int) (C := RX4) (T := TX4) (N := 3) hx hb hts iX4 tyX4 tyX4_ok nmX4 hown hK.1 hP hD hS 6 rfl rfl 2 (Nat.le_of_ble_eq_true rfl) k3 (fun _ h9 => h9) rfl (tyX4_ok 2 (Nat.le_of_ble_eq_true rfl)) rfl rfl (Nat.le_of_ble_eq_true rfl) dX8_day_136 (fun H locs hP hD hS => ?_)
                  have hP : va_P D vwCl (w_Tq_day cI cJ cS q_t q_t_plan q_t_counter q_t_choices q_t_ringers q_t_readings q_t_sheets q_t_plan_kinds q_t_plan_comes q_t_plan_wants q_t_plan_outs q_t_readings_persons q_t_readings_minutes q_t_sh0 q_t_sh0_cells q_t_sh1 q_t_sh1_cells q_t_sh2 q_t_sh2_cells q_t_sh3 q_t_sh3_cells t_traced t_lastFault y22.1 y22.2.1 y22.2.2.1 y22.2.2.2.1 y22.2.2.2.2.1 y22.2.2.2.2.2.1 y22.2.2.2.2.2.2 0 t_sh_lane t_sh_size t_sh_cells) H := hP
                  have hD : va_D A (w_Tq_day cI cJ cS q_t q_t_plan q_t_counter q_t_choices q_t_ringers q_t_readings q_t_sheets q_t_plan_kinds q_t_plan_comes q_t_plan_wants q_t_plan_outs q_t_readings_persons q_t_readings_minutes q_t_sh0 q_t_sh0_cells q_t_sh1 q_t_sh1_cells q_t_sh2 q_t_sh2_cells q_t_sh3 q_t_sh3_cells t_traced t_lastFault y22.1 y22.2.1 y22.2.2.1 y22.2.2.2.1 y22.2.2.2.2.1 y22.2.2.2.2.2.1 y22.2.2.2.2.2.2 0 t_sh_lane t_sh_size t_sh_cells) := hD
                  refine lv_aload_n hx hb dX8_day_139 rfl (lv_at hl 2 rfl) ?_
                  refine lv_aload_n hx hb dX8_day_140 rfl (lv_at hl 2 rfl) ?_
                  refine va_get (ci := 7) (v := .ref q_t_plan) (C := RX8) (T := TX8) (N := 8) hx hb hts iX8 hown hK.1 hP 0 rfl rfl 0 (Nat.le_of_ble_eq_true rfl) k1 (fun _ h9 => h9) rfl dX8_day_141 ?_
                  refine va_get (ci := 3) (v := .int y22.2.1) (C := RX3) (T := TX3) (N := 7) hx hb hts iX3 hown hK.1 hP 1 rfl rfl 1 (Nat.le_of_ble_eq_true rfl) k4 (fun _ h9 => h9) rfl dX8_day_144 ?_
                  obtain ⟨y24, h25, hM⟩ := o_bd hM
                  refine af_i (ws2 := (w_Tq_day cI cJ cS q_t q_t_plan q_t_counter q_t_choices q_t_ringers q_t_readings q_t_sheets q_t_plan_kinds q_t_plan_comes q_t_plan_wants q_t_plan_outs q_t_readings_persons q_t_readings_minutes q_t_sh0 q_t_sh0_cells q_t_sh1 q_t_sh1_cells q_t_sh2 q_t_sh2_cells q_t_sh3 q_t_sh3_cells t_traced y24.2 y22.1 y22.2.1 y22.2.2.1 y22.2.2.2.1 y22.2.2.2.2.1 y22.2.2.2.2.2.1 y22.2.2.2.2.2.2 0 t_sh_lane t_sh_size t_sh_cells)) (va_runV (As := [.int y22.2.1]) (rest := []) ⟨hx, hb, hml, hown, hts⟩ (c_Tq_faultless l D cI cJ cS q_t q_t_plan q_t_counter q_t_choices q_t_ringers q_t_readings q_t_sheets t_traced t_lastFault y22.2.1 y24 h25 _) (cwV 1 hts gX8_day_X8_faultless rfl rfl rfl (by decide +kernel) ⟨(Nat.le_of_ble_eq_true rfl), (Nat.le_of_ble_eq_true rfl)⟩) (pre_V hK hP hD [0] rfl rfl rfl rfl) rfl rfl hl.1 rfl (lv_room (Nat.le_of_ble_eq_true rfl)) dX8_day_147 ⟨Nat.zero_le _, Nat.zero_le _⟩) hP hD hS hA [0] [1, 2, 3, 4, 5, 6, 7, 8, 9, 10, 11, 12, 13, 14, 15] [15, 0, 1, 2, 3, 4, 5, 6, 7, 8, 9, 10, 11, 12, 13, 14] rfl rfl rfl (by decide) rfl rfl (fun H locs hP hD hS => ?_)
                  have hM := (Option.some.inj hM)
                  subst hM
                  exact rt_i hx hb hr hlocks hP hD hS dX8_day_150
                · have hM := (o_if hM).2 c21
                  refine lv_aload_n hx hb dX8_day_109 rfl (lv_at hl 2 rfl) ?_
                  refine lv_bipush (v := (-100)) hx hb dX8_day_110 (by decide) ?_
                  refine lv_iload hx hb dX8_day_112 (lv_at hl 0 rfl) ?_
                  refine lv_isub hx hb dX8_day_114 ?_
                  obtain ⟨y26, h27, hM⟩ := o_bd hM
                  refine af_i (ws2 := (w_Tq_day cI cJ cS q_t q_t_plan q_t_counter q_t_choices q_t_ringers q_t_readings q_t_sheets q_t_plan_kinds q_t_plan_comes q_t_plan_wants q_t_plan_outs q_t_readings_persons q_t_readings_minutes q_t_sh0 q_t_sh0_cells q_t_sh1 q_t_sh1_cells q_t_sh2 q_t_sh2_cells q_t_sh3 q_t_sh3_cells t_traced y26.2 t_plan_law t_plan_count t_plan_bells t_plan_kinds t_plan_comes t_plan_wants t_plan_outs t_readings_count t_sh_lane t_sh_size t_sh_cells)) (va_runV (As := [.int ((-100) - y19)]) (rest := []) ⟨hx, hb, hml, hown, hts⟩ (c_Tq_faultless l D cI cJ cS q_t q_t_plan q_t_counter q_t_choices q_t_ringers q_t_readings q_t_sheets t_traced t_lastFault ((-100) - y19) y26 h27 _) (cwV 1 hts gX8_day_X8_faultless rfl rfl rfl (by decide +kernel) ⟨(Nat.le_of_ble_eq_true rfl), (Nat.le_of_ble_eq_true rfl)⟩) (pre_V hK hP hD [0] rfl rfl rfl rfl) rfl rfl hl.1 rfl (lv_room (Nat.le_of_ble_eq_true rfl)) dX8_day_115 ⟨Nat.zero_le _, Nat.zero_le _⟩) hP hD hS hA [0] [1, 2, 3, 4, 5, 6, 7, 8, 9, 10, 11, 12, 13, 14, 15] [15, 0, 1, 2, 3, 4, 5, 6, 7, 8, 9, 10, 11, 12, 13, 14] rfl rfl rfl (by decide) rfl rfl (fun H locs hP hD hS => ?_)
                  have hM := (Option.some.inj hM)
                  subst hM
                  exact rt_i hx hb hr hlocks hP hD hS dX8_day_118
              · have hM := (o_if hM).1 c18
                refine lv_aload_n hx hb dX8_day_86 rfl (lv_at hl 1 rfl) ?_
                refine lv_iconst (v := 3) hx hb dX8_day_87 (by decide) ?_
                obtain ⟨y28, h29, hM⟩ := o_bd hM
                refine af_i (ws2 := (w_Tq_day cI cJ cS q_t q_t_plan q_t_counter q_t_choices q_t_ringers q_t_readings q_t_sheets q_t_plan_kinds q_t_plan_comes q_t_plan_wants q_t_plan_outs q_t_readings_persons q_t_readings_minutes q_t_sh0 q_t_sh0_cells q_t_sh1 q_t_sh1_cells q_t_sh2 q_t_sh2_cells q_t_sh3 q_t_sh3_cells t_traced y28.2 t_plan_law t_plan_count t_plan_bells t_plan_kinds t_plan_comes t_plan_wants t_plan_outs t_readings_count t_sh_lane t_sh_size t_sh_cells)) (va_runV (As := [.int 3]) (rest := []) ⟨hx, hb, hml, hown, hts⟩ (c_Tq_faulted l D cI cJ cS q_t q_t_plan q_t_counter q_t_choices q_t_ringers q_t_readings q_t_sheets t_traced t_lastFault 3 y28 h29 _) (cwV 1 hts gX8_day_X8_faulted rfl rfl rfl (by decide +kernel) ⟨(Nat.le_of_ble_eq_true rfl), (Nat.le_of_ble_eq_true rfl)⟩) (pre_V hK hP hD [0] rfl rfl rfl rfl) rfl rfl hl.1 rfl (lv_room (Nat.le_of_ble_eq_true rfl)) dX8_day_88 ⟨Nat.zero_le _, Nat.zero_le _⟩) hP hD hS hA [0] [1, 2, 3, 4, 5, 6, 7, 8, 9, 10, 11, 12, 13, 14, 15] [15, 0, 1, 2, 3, 4, 5, 6, 7, 8, 9, 10, 11, 12, 13, 14] rfl rfl rfl (by decide) rfl rfl (fun H locs hP hD hS => ?_)
                have hM := (Option.some.inj hM)
                subst hM
                exact rt_i hx hb hr hlocks hP hD hS dX8_day_91
            · have hM := (o_if hM).2 c15
              refine lv_aload_n hx hb dX8_day_69 rfl (lv_at hl 1 rfl) ?_
              refine lv_iconst (v := 4) hx hb dX8_day_70 (by decide) ?_
              obtain ⟨y30, h31, hM⟩ := o_bd hM
              refine af_i (ws2 := (w_Tq_day cI cJ cS q_t q_t_plan q_t_counter q_t_choices q_t_ringers q_t_readings q_t_sheets q_t_plan_kinds q_t_plan_comes q_t_plan_wants q_t_plan_outs q_t_readings_persons q_t_readings_minutes q_t_sh0 q_t_sh0_cells q_t_sh1 q_t_sh1_cells q_t_sh2 q_t_sh2_cells q_t_sh3 q_t_sh3_cells t_traced y30.2 t_plan_law t_plan_count t_plan_bells t_plan_kinds t_plan_comes t_plan_wants t_plan_outs t_readings_count t_sh_lane t_sh_size t_sh_cells)) (va_runV (As := [.int 4]) (rest := []) ⟨hx, hb, hml, hown, hts⟩ (c_Tq_faulted l D cI cJ cS q_t q_t_plan q_t_counter q_t_choices q_t_ringers q_t_readings q_t_sheets t_traced t_lastFault 4 y30 h31 _) (cwV 1 hts gX8_day_X8_faulted rfl rfl rfl (by decide +kernel) ⟨(Nat.le_of_ble_eq_true rfl), (Nat.le_of_ble_eq_true rfl)⟩) (pre_V hK hP hD [0] rfl rfl rfl rfl) rfl rfl hl.1 rfl (lv_room (Nat.le_of_ble_eq_true rfl)) dX8_day_71 ⟨Nat.zero_le _, Nat.zero_le _⟩) hP hD hS hA [0] [1, 2, 3, 4, 5, 6, 7, 8, 9, 10, 11, 12, 13, 14, 15] [15, 0, 1, 2, 3, 4, 5, 6, 7, 8, 9, 10, 11, 12, 13, 14] rfl rfl rfl (by decide) rfl rfl (fun H locs hP hD hS => ?_)
              have hM := (Option.some.inj hM)
              subst hM
              exact rt_i hx hb hr hlocks hP hD hS dX8_day_74
          · have hM := (o_if hM).2 c14
            refine lv_aload_n hx hb dX8_day_58 rfl (lv_at hl 1 rfl) ?_
            refine lv_iconst (v := 1) hx hb dX8_day_59 (by decide) ?_
            obtain ⟨y32, h33, hM⟩ := o_bd hM
            refine af_i (ws2 := (w_Tq_day cI cJ cS q_t q_t_plan q_t_counter q_t_choices q_t_ringers q_t_readings q_t_sheets q_t_plan_kinds q_t_plan_comes q_t_plan_wants q_t_plan_outs q_t_readings_persons q_t_readings_minutes q_t_sh0 q_t_sh0_cells q_t_sh1 q_t_sh1_cells q_t_sh2 q_t_sh2_cells q_t_sh3 q_t_sh3_cells t_traced y32.2 t_plan_law t_plan_count t_plan_bells t_plan_kinds t_plan_comes t_plan_wants t_plan_outs t_readings_count t_sh_lane t_sh_size t_sh_cells)) (va_runV (As := [.int 1]) (rest := []) ⟨hx, hb, hml, hown, hts⟩ (c_Tq_faulted l D cI cJ cS q_t q_t_plan q_t_counter q_t_choices q_t_ringers q_t_readings q_t_sheets t_traced t_lastFault 1 y32 h33 _) (cwV 1 hts gX8_day_X8_faulted rfl rfl rfl (by decide +kernel) ⟨(Nat.le_of_ble_eq_true rfl), (Nat.le_of_ble_eq_true rfl)⟩) (pre_V hK hP hD [0] rfl rfl rfl rfl) rfl rfl hl.1 rfl (lv_room (Nat.le_of_ble_eq_true rfl)) dX8_day_60 ⟨Nat.zero_le _, Nat.zero_le _⟩) hP hD hS hA [0] [1, 2, 3, 4, 5, 6, 7, 8, 9, 10, 11, 12, 13, 14, 15] [15, 0, 1, 2, 3, 4, 5, 6, 7, 8, 9, 10, 11, 12, 13, 14] rfl rfl rfl (by decide) rfl rfl (fun H locs hP hD hS => ?_)
            have hM := (Option.some.inj hM)
            subst hM
            exact rt_i hx hb hr hlocks hP hD hS dX8_day_63
        · have hM := (o_if hM).2 c11
          refine lv_aload_n hx hb dX8_day_44 rfl (lv_at hl 1 rfl) ?_
          refine lv_iconst (v := 2) hx hb dX8_day_45 (by decide) ?_
          obtain ⟨y34, h35, hM⟩ := o_bd hM
          refine af_i (ws2 := (w_Tq_day cI cJ cS q_t q_t_plan q_t_counter q_t_choices q_t_ringers q_t_readings q_t_sheets q_t_plan_kinds q_t_plan_comes q_t_plan_wants q_t_plan_outs q_t_readings_persons q_t_readings_minutes q_t_sh0 q_t_sh0_cells q_t_sh1 q_t_sh1_cells q_t_sh2 q_t_sh2_cells q_t_sh3 q_t_sh3_cells t_traced y34.2 t_plan_law t_plan_count t_plan_bells t_plan_kinds t_plan_comes t_plan_wants t_plan_outs t_readings_count t_sh_lane t_sh_size t_sh_cells)) (va_runV (As := [.int 2]) (rest := []) ⟨hx, hb, hml, hown, hts⟩ (c_Tq_faulted l D cI cJ cS q_t q_t_plan q_t_counter q_t_choices q_t_ringers q_t_readings q_t_sheets t_traced t_lastFault 2 y34 h35 _) (cwV 1 hts gX8_day_X8_faulted rfl rfl rfl (by decide +kernel) ⟨(Nat.le_of_ble_eq_true rfl), (Nat.le_of_ble_eq_true rfl)⟩) (pre_V hK hP hD [0] rfl rfl rfl rfl) rfl rfl hl.1 rfl (lv_room (Nat.le_of_ble_eq_true rfl)) dX8_day_46 ⟨Nat.zero_le _, Nat.zero_le _⟩) hP hD hS hA [0] [1, 2, 3, 4, 5, 6, 7, 8, 9, 10, 11, 12, 13, 14, 15] [15, 0, 1, 2, 3, 4, 5, 6, 7, 8, 9, 10, 11, 12, 13, 14] rfl rfl rfl (by decide) rfl rfl (fun H locs hP hD hS => ?_)
          have hM := (Option.some.inj hM)
          subst hM
          exact rt_i hx hb hr hlocks hP hD hS dX8_day_49
      · refine W.eq (g2 := F0 m 33 ls [.ref q_t_sh1]) rfl ?_
        refine lv_astore (lv' := [(5, .ref q_t_sh1), (0, .ref q_t), (1, .int p_sheet), (2, .int p_lane), (3, .int p_i), (4, .int p_n)]) hx hb dX8_day_33 hl (Nat.le_of_ble_eq_true rfl) rfl (fun ls hl => ?_)
        refine lv_aload hx hb dX8_day_35 (lv_at hl 0 rfl) ?_
        refine lv_iload_n hx hb dX8_day_37 rfl (lv_at hl 3 rfl) ?_
        obtain ⟨y9, h10, hM⟩ := o_bd hM
        refine af_i (ws2 := (w_Tq_day cI cJ cS q_t q_t_plan q_t_counter q_t_choices q_t_ringers q_t_readings q_t_sheets q_t_plan_kinds q_t_plan_comes q_t_plan_wants q_t_plan_outs q_t_readings_persons q_t_readings_minutes q_t_sh0 q_t_sh0_cells q_t_sh1 q_t_sh1_cells q_t_sh2 q_t_sh2_cells q_t_sh3 q_t_sh3_cells t_traced t_lastFault t_plan_law t_plan_count t_plan_bells t_plan_kinds t_plan_comes t_plan_wants t_plan_outs t_readings_count t_sh_lane t_sh_size t_sh_cells)) (va_runV (As := [.int p_lane]) (rest := []) ⟨hx, hb, hml, hown, hts⟩ (c_Sh_isOfAnother l D cI cJ cS q_t_sh1 q_t_sh1_cells (t_sh_lane 1) (t_sh_size 1) p_lane y9 h10 _) (cwV 1 hts gX8_day_X6_isOfAnother rfl rfl rfl (by decide +kernel) ⟨(Nat.le_of_ble_eq_true rfl), (Nat.le_of_ble_eq_true rfl)⟩) (pre_V hK hP hD [10] rfl rfl rfl rfl) rfl rfl hl.1 rfl (lv_room (Nat.le_of_ble_eq_true rfl)) dX8_day_38 ⟨Nat.zero_le _, Nat.zero_le _⟩) hP hD hS hA [10] [0, 1, 2, 3, 4, 5, 6, 7, 8, 9, 11, 12, 13, 14, 15] [0, 1, 2, 3, 4, 5, 6, 7, 8, 9, 15, 10, 11, 12, 13, 14] rfl rfl rfl (by decide) rfl rfl (fun H locs hP hD hS => ?_)
        refine lv_if_eq (tgt := 50) hx hb dX8_day_41 (by decide) (fun c11 => ?_) (fun c11 => ?_)
        · have hM := (o_if hM).1 c11
          refine lv_aload hx hb dX8_day_50 (lv_at hl 0 rfl) ?_
          obtain ⟨y12, h13, hM⟩ := o_bd hM
          refine af_i (ws2 := (w_Tq_day cI cJ cS q_t q_t_plan q_t_counter q_t_choices q_t_ringers q_t_readings q_t_sheets q_t_plan_kinds q_t_plan_comes q_t_plan_wants q_t_plan_outs q_t_readings_persons q_t_readings_minutes q_t_sh0 q_t_sh0_cells q_t_sh1 q_t_sh1_cells q_t_sh2 q_t_sh2_cells q_t_sh3 q_t_sh3_cells t_traced t_lastFault t_plan_law t_plan_count t_plan_bells t_plan_kinds t_plan_comes t_plan_wants t_plan_outs t_readings_count t_sh_lane t_sh_size t_sh_cells)) (va_runV (As := []) (rest := []) ⟨hx, hb, hml, hown, hts⟩ (c_Sh_hasNothing l D cI cJ cS q_t_sh1 q_t_sh1_cells (t_sh_lane 1) (t_sh_size 1) y12 h13 _) (cwV 0 hts gX8_day_X6_hasNothing rfl rfl rfl (by decide +kernel) ⟨(Nat.le_of_ble_eq_true rfl), (Nat.le_of_ble_eq_true rfl)⟩) (pre_V hK hP hD [10] rfl rfl rfl rfl) rfl rfl hl.1 rfl (lv_room (Nat.le_of_ble_eq_true rfl)) dX8_day_52 ⟨Nat.zero_le _, Nat.zero_le _⟩) hP hD hS hA [10] [0, 1, 2, 3, 4, 5, 6, 7, 8, 9, 11, 12, 13, 14, 15] [0, 1, 2, 3, 4, 5, 6, 7, 8, 9, 15, 10, 11, 12, 13, 14] rfl rfl rfl (by decide) rfl rfl (fun H locs hP hD hS => ?_)
          refine lv_if_eq (tgt := 64) hx hb dX8_day_55 (by decide) (fun c14 => ?_) (fun c14 => ?_)
          · have hM := (o_if hM).1 c14
            refine lv_iload hx hb dX8_day_64 (lv_at hl 5 rfl) ?_
            refine lv_if_ge (tgt := 75) hx hb dX8_day_66 (by decide) (fun c15 => ?_) (fun c15 => ?_)
            · have hM := (o_if hM).1 c15
              refine lv_aload hx hb dX8_day_75 (lv_at hl 0 rfl) ?_
              refine lv_iload_n hx hb dX8_day_77 rfl (lv_at hl 4 rfl) ?_
              refine lv_iload hx hb dX8_day_78 (lv_at hl 5 rfl) ?_
              obtain ⟨y16, h17, hM⟩ := o_bd hM
              refine af_i (ws2 := (w_Tq_day cI cJ cS q_t q_t_plan q_t_counter q_t_choices q_t_ringers q_t_readings q_t_sheets q_t_plan_kinds q_t_plan_comes q_t_plan_wants q_t_plan_outs q_t_readings_persons q_t_readings_minutes q_t_sh0 q_t_sh0_cells q_t_sh1 q_t_sh1_cells q_t_sh2 q_t_sh2_cells q_t_sh3 q_t_sh3_cells t_traced t_lastFault t_plan_law t_plan_count t_plan_bells t_plan_kinds t_plan_comes t_plan_wants t_plan_outs t_readings_count t_sh_lane t_sh_size t_sh_cells)) (va_runV (As := [.int p_i, .int p_n]) (rest := []) ⟨hx, hb, hml, hown, hts⟩ (c_Sh_holds l D cI cJ cS q_t_sh1 q_t_sh1_cells (t_sh_lane 1) (t_sh_size 1) p_i p_n y16 h17 _) (cwV 2 hts gX8_day_X6_holds rfl rfl rfl (by decide +kernel) ⟨(Nat.le_of_ble_eq_true rfl), (Nat.le_of_ble_eq_true rfl)⟩) (pre_V hK hP hD [10] rfl rfl rfl rfl) rfl rfl hl.1 rfl (lv_room (Nat.le_of_ble_eq_true rfl)) dX8_day_80 ⟨Nat.zero_le _, Nat.zero_le _⟩) hP hD hS hA [10] [0, 1, 2, 3, 4, 5, 6, 7, 8, 9, 11, 12, 13, 14, 15] [0, 1, 2, 3, 4, 5, 6, 7, 8, 9, 15, 10, 11, 12, 13, 14] rfl rfl rfl (by decide) rfl rfl (fun H locs hP hD hS => ?_)
              refine lv_if_ne (tgt := 92) hx hb dX8_day_83 (by decide) (fun c18 => ?_) (fun c18 => ?_)
              · have hM := (o_if hM).2 c18
                refine lv_aload hx hb dX8_day_92 (lv_at hl 0 rfl) ?_
                refine lv_iload_n hx hb dX8_day_94 rfl (lv_at hl 4 rfl) ?_
                refine lv_iload hx hb dX8_day_95 (lv_at hl 5 rfl) ?_
                obtain ⟨y19, h20, hM⟩ := o_bd hM
                refine af_i (ws2 := (w_Tq_day cI cJ cS q_t q_t_plan q_t_counter q_t_choices q_t_ringers q_t_readings q_t_sheets q_t_plan_kinds q_t_plan_comes q_t_plan_wants q_t_plan_outs q_t_readings_persons q_t_readings_minutes q_t_sh0 q_t_sh0_cells q_t_sh1 q_t_sh1_cells q_t_sh2 q_t_sh2_cells q_t_sh3 q_t_sh3_cells t_traced t_lastFault t_plan_law t_plan_count t_plan_bells t_plan_kinds t_plan_comes t_plan_wants t_plan_outs t_readings_count t_sh_lane t_sh_size t_sh_cells)) (va_runS (As := [.ref q_t_sh1, .int p_i, .int p_n]) (rest := []) ⟨hx, hb, hml, hown, hts⟩ (c_Te_firstFault l D cI cJ cS q_t_sh1 q_t_sh1_cells (t_sh_lane 1) (t_sh_size 1) (t_sh_cells 1) p_i p_n y19 h20 _) (va_cwS 3 hts gX8_day_X7_firstFault rfl rfl rfl (by decide +kernel) ⟨(Nat.le_of_ble_eq_true rfl), (Nat.le_of_ble_eq_true rfl)⟩) (pre_S hK hP hD [10, 11] rfl rfl) rfl rfl hl.1 rfl (lv_room (Nat.le_of_ble_eq_true rfl)) dX8_day_97 ⟨Nat.zero_le _, Nat.zero_le _⟩) hP hD hS hA [10, 11] [0, 1, 2, 3, 4, 5, 6, 7, 8, 9, 12, 13, 14, 15] [0, 1, 2, 3, 4, 5, 6, 7, 8, 9, 14, 15, 10, 11, 12, 13] rfl rfl rfl (by decide) rfl rfl (fun H locs hP hD hS => ?_)
                refine lv_istore (lv' := [(6, .int y19), (5, .ref q_t_sh1), (0, .ref q_t), (1, .int p_sheet), (2, .int p_lane), (3, .int p_i), (4, .int p_n)]) hx hb dX8_day_100 hl (Nat.le_of_ble_eq_true rfl) rfl (fun ls hl => ?_)
                refine lv_iload hx hb dX8_day_102 (lv_at hl 0 rfl) ?_
                refine lv_bipush (v := (-9)) hx hb dX8_day_104 (by decide) ?_
                refine lv_icmp_eq (tgt := 119) hx hb dX8_day_106 (by decide) (fun c21 => ?_) (fun c21 => ?_)
                · have hM := (o_if hM).1 c21
                  refine lv_aload_n hx hb dX8_day_119 rfl (lv_at hl 2 rfl) ?_
                  refine va_get (ci := 7) (v := .ref q_t_plan) (C := RX8) (T := TX8) (N := 8) hx hb hts iX8 hown hK.1 hP 0 rfl rfl 0 (Nat.le_of_ble_eq_true rfl) k1 (fun _ h9 => h9) rfl dX8_day_120 ?_
                  refine lv_aload hx hb dX8_day_123 (lv_at hl 1 rfl) ?_
                  refine lv_iload_n hx hb dX8_day_125 rfl (lv_at hl 5 rfl) ?_
                  refine lv_iload hx hb dX8_day_126 (lv_at hl 6 rfl) ?_
                  obtain ⟨y22, h23, hM⟩ := o_bd hM
                  refine af_v (ws2 := (w_Tq_day cI cJ cS q_t q_t_plan q_t_counter q_t_choices q_t_ringers q_t_readings q_t_sheets q_t_plan_kinds q_t_plan_comes q_t_plan_wants q_t_plan_outs q_t_readings_persons q_t_readings_minutes q_t_sh0 q_t_sh0_cells q_t_sh1 q_t_sh1_cells q_t_sh2 q_t_sh2_cells q_t_sh3 q_t_sh3_cells t_traced t_lastFault y22.1 y22.2.1 y22.2.2.1 y22.2.2.2.1 y22.2.2.2.2.1 y22.2.2.2.2.2.1 y22.2.2.2.2.2.2 t_readings_count t_sh_lane t_sh_size t_sh_cells)) (va_runS (As := [.ref q_t_plan, .ref q_t_sh1, .int p_i, .int p_n]) (rest := []) ⟨hx, hb, hml, hown, hts⟩ (c_Te_readInto l D cI cJ cS q_t_plan q_t_sh1 q_t_plan_kinds q_t_plan_comes q_t_plan_wants q_t_plan_outs q_t_sh1_cells t_plan_law t_plan_count t_plan_bells t_plan_kinds t_plan_comes t_plan_wants t_plan_outs (t_sh_lane 1) (t_sh_size 1) (t_sh_cells 1) p_i p_n y22 h23 _) (va_cwS 4 hts gX8_day_X7_readInto rfl rfl rfl (by decide +kernel) ⟨(Nat.le_of_ble_eq_true rfl), (Nat.le_of_ble_eq_true rfl)⟩) (pre_S hK hP hD [1, 2, 3, 4, 5, 10, 11] rfl rfl) rfl rfl hl.1 rfl (lv_room (Nat.le_of_ble_eq_true rfl)) dX8_day_128 ⟨Nat.zero_le _, Nat.zero_le _⟩) hP hD hS hA [1, 2, 3, 4, 5, 10, 11] [0, 6, 7, 8, 9, 12, 13, 14, 15] [0, 9, 10, 11, 12, 13, 1, 2, 3, 4, 14, 15, 5, 6, 7, 8] rfl rfl rfl (by decide) rfl rfl (fun H locs hP hD hS => ?_)
                  refine lv_aload_n hx hb dX8_day_131 rfl (lv_at hl 2 rfl) ?_
                  refine va_get (ci := 7) (v := .ref q_t_readings) (C := RX8) (T := TX8) (N := 8) hx hb hts iX8 hown hK.1 hP 0 rfl rfl 4 (Nat.le_of_ble_eq_true rfl) k2 (fun _ h9 => h9) rfl dX8_day_132 ?_
                  refine lv_iconst (v := 0) hx hb dX8_day_135 (by decide) ?_
                  refine va_put (ci := 4) (v := .int 0) (ty := .int) (C := RX4) (T := TX4) (N := 3) hx hb hts iX4 tyX4 tyX4_ok nmX4 hown hK.1 hP hD hS 6 rfl rfl 2 (Nat.le_of_ble_eq_true rfl) k3 (fun _ h9 => h9) rfl (tyX4_ok 2 (Nat.le_of_ble_eq_true rfl)) rfl rfl (Nat.le_of_ble_eq_true rfl) dX8_day_136 (fun H locs hP hD hS => ?_)
                  have hP : va_P D vwCl (w_Tq_day cI cJ cS q_t q_t_plan q_t_counter q_t_choices q_t_ringers q_t_readings q_t_sheets q_t_plan_kinds q_t_plan_comes q_t_plan_wants q_t_plan_outs q_t_readings_persons q_t_readings_minutes q_t_sh0 q_t_sh0_cells q_t_sh1 q_t_sh1_cells q_t_sh2 q_t_sh2_cells q_t_sh3 q_t_sh3_cells t_traced t_lastFault y22.1 y22.2.1 y22.2.2.1 y22.2.2.2.1 y22.2.2.2.2.1 y22.2.2.2.2.2.1 y22.2.2.2.2.2.2 0 t_sh_lane t_sh_size t_sh_cells) H := hP
                  have hD : va_D A (w_Tq_day cI cJ cS q_t q_t_plan q_t_counter q_t_choices q_t_ringers q_t_readings q_t_sheets q_t_plan_kinds q_t_plan_comes q_t_plan_wants q_t_plan_outs q_t_readings_persons q_t_readings_minutes q_t_sh0 q_t_sh0_cells q_t_sh1 q_t_sh1_cells q_t_sh2 q_t_sh2_cells q_t_sh3 q_t_sh3_cells t_traced t_lastFault y22.1 y22.2.1 y22.2.2.1 y22.2.2.2.1 y22.2.2.2.2.1 y22.2.2.2.2.2.1 y22.2.2.2.2.2.2 0 t_sh_lane t_sh_size t_sh_cells) := hD
                  refine lv_aload_n hx hb dX8_day_139 rfl (lv_at hl 2 rfl) ?_
                  refine lv_aload_n hx hb dX8_day_140 rfl (lv_at hl 2 rfl) ?_
                  refine va_get (ci := 7) (v := .ref q_t_plan) (C := RX8) (T := TX8) (N := 8) hx hb hts iX8 hown hK.1 hP 0 rfl rfl 0 (Nat.le_of_ble_eq_true rfl) k1 (fun _ h9 => h9) rfl dX8_day_141 ?_
                  refine va_get (ci := 3) (v := .int y22.2.1) (C := RX3) (T := TX3) (N := 7) hx hb hts iX3 hown hK.1 hP 1 rfl rfl 1 (Nat.le_of_ble_eq_true rfl) k4 (fun _ h9 => h9) rfl dX8_day_144 ?_
                  obtain ⟨y24, h25, hM⟩ := o_bd hM
                  refine af_i (ws2 := (w_Tq_day cI cJ cS q_t q_t_plan q_t_counter q_t_choices q_t_ringers q_t_readings q_t_sheets q_t_plan_kinds q_t_plan_comes q_t_plan_wants q_t_plan_outs q_t_readings_persons q_t_readings_minutes q_t_sh0 q_t_sh0_cells q_t_sh1 q_t_sh1_cells q_t_sh2 q_t_sh2_cells q_t_sh3 q_t_sh3_cells t_traced y24.2 y22.1 y22.2.1 y22.2.2.1 y22.2.2.2.1 y22.2.2.2.2.1 y22.2.2.2.2.2.1 y22.2.2.2.2.2.2 0 t_sh_lane t_sh_size t_sh_cells)) (va_runV (As := [.int y22.2.1]) (rest := []) ⟨hx, hb, hml, hown, hts⟩ (c_Tq_faultless l D cI cJ cS q_t q_t_plan q_t_counter q_t_choices q_t_ringers q_t_readings q_t_sheets t_traced t_lastFault y22.2.1 y24 h25 _) (cwV 1 hts gX8_day_X8_faultless rfl rfl rfl (by decide +kernel) ⟨(Nat.le_of_ble_eq_true rfl), (Nat.le_of_ble_eq_true rfl)⟩) (pre_V hK hP hD [0] rfl rfl rfl rfl) rfl rfl hl.1 rfl (lv_room (Nat.le_of_ble_eq_true rfl)) dX8_day_147 ⟨Nat.zero_le _, Nat.zero_le _⟩) hP hD hS hA [0] [1, 2, 3, 4, 5, 6, 7, 8, 9, 10, 11, 12, 13, 14, 15] [15, 0, 1, 2, 3, 4, 5, 6, 7, 8, 9, 10, 11, 12, 13, 14] rfl rfl rfl (by decide) rfl rfl (fun H locs hP hD hS => ?_)
                  have hM := (Option.some.inj hM)
                  subst hM
                  exact rt_i hx hb hr hlocks hP hD hS dX8_day_150
                · have hM := (o_if hM).2 c21
                  refine lv_aload_n hx hb dX8_day_109 rfl (lv_at hl 2 rfl) ?_
                  refine lv_bipush (v := (-100)) hx hb dX8_day_110 (by decide) ?_
                  refine lv_iload hx hb dX8_day_112 (lv_at hl 0 rfl) ?_
                  refine lv_isub hx hb dX8_day_114 ?_
                  obtain ⟨y26, h27, hM⟩ := o_bd hM
                  refine af_i (ws2 := (w_Tq_day cI cJ cS q_t q_t_plan q_t_counter q_t_choices q_t_ringers q_t_readings q_t_sheets q_t_plan_kinds q_t_plan_comes q_t_plan_wants q_t_plan_outs q_t_readings_persons q_t_readings_minutes q_t_sh0 q_t_sh0_cells q_t_sh1 q_t_sh1_cells q_t_sh2 q_t_sh2_cells q_t_sh3 q_t_sh3_cells t_traced y26.2 t_plan_law t_plan_count t_plan_bells t_plan_kinds t_plan_comes t_plan_wants t_plan_outs t_readings_count t_sh_lane t_sh_size t_sh_cells)) (va_runV (As := [.int ((-100) - y19)]) (rest := []) ⟨hx, hb, hml, hown, hts⟩ (c_Tq_faultless l D cI cJ cS q_t q_t_plan q_t_counter q_t_choices q_t_ringers q_t_readings q_t_sheets t_traced t_lastFault ((-100) - y19) y26 h27 _) (cwV 1 hts gX8_day_X8_faultless rfl rfl rfl (by decide +kernel) ⟨(Nat.le_of_ble_eq_true rfl), (Nat.le_of_ble_eq_true rfl)⟩) (pre_V hK hP hD [0] rfl rfl rfl rfl) rfl rfl hl.1 rfl (lv_room (Nat.le_of_ble_eq_true rfl)) dX8_day_115 ⟨Nat.zero_le _, Nat.zero_le _⟩) hP hD hS hA [0] [1, 2, 3, 4, 5, 6, 7, 8, 9, 10, 11, 12, 13, 14, 15] [15, 0, 1, 2, 3, 4, 5, 6, 7, 8, 9, 10, 11, 12, 13, 14] rfl rfl rfl (by decide) rfl rfl (fun H locs hP hD hS => ?_)
                  have hM := (Option.some.inj hM)
                  subst hM
                  exact rt_i hx hb hr hlocks hP hD hS dX8_day_118
              · have hM := (o_if hM).1 c18
                refine lv_aload_n hx hb dX8_day_86 rfl (lv_at hl 1 rfl) ?_
                refine lv_iconst (v := 3) hx hb dX8_day_87 (by decide) ?_
                obtain ⟨y28, h29, hM⟩ := o_bd hM
                refine af_i (ws2 := (w_Tq_day cI cJ cS q_t q_t_plan q_t_counter q_t_choices q_t_ringers q_t_readings q_t_sheets q_t_plan_kinds q_t_plan_comes q_t_plan_wants q_t_plan_outs q_t_readings_persons q_t_readings_minutes q_t_sh0 q_t_sh0_cells q_t_sh1 q_t_sh1_cells q_t_sh2 q_t_sh2_cells q_t_sh3 q_t_sh3_cells t_traced y28.2 t_plan_law t_plan_count t_plan_bells t_plan_kinds t_plan_comes t_plan_wants t_plan_outs t_readings_count t_sh_lane t_sh_size t_sh_cells)) (va_runV (As := [.int 3]) (rest := []) ⟨hx, hb, hml, hown, hts⟩ (c_Tq_faulted l D cI cJ cS q_t q_t_plan q_t_counter q_t_choices q_t_ringers q_t_readings q_t_sheets t_traced t_lastFault 3 y28 h29 _) (cwV 1 hts gX8_day_X8_faulted rfl rfl rfl (by decide +kernel) ⟨(Nat.le_of_ble_eq_true rfl), (Nat.le_of_ble_eq_true rfl)⟩) (pre_V hK hP hD [0] rfl rfl rfl rfl) rfl rfl hl.1 rfl (lv_room (Nat.le_of_ble_eq_true rfl)) dX8_day_88 ⟨Nat.zero_le _, Nat.zero_le _⟩) hP hD hS hA [0] [1, 2, 3, 4, 5, 6, 7, 8, 9, 10, 11, 12, 13, 14, 15] [15, 0, 1, 2, 3, 4, 5, 6, 7, 8, 9, 10, 11, 12, 13, 14] rfl rfl rfl (by decide) rfl rfl (fun H locs hP hD hS => ?_)
                have hM := (Option.some.inj hM)
                subst hM
                exact rt_i hx hb hr hlocks hP hD hS dX8_day_91
            · have hM := (o_if hM).2 c15
              refine lv_aload_n hx hb dX8_day_69 rfl (lv_at hl 1 rfl) ?_
              refine lv_iconst (v := 4) hx hb dX8_day_70 (by decide) ?_
              obtain ⟨y30, h31, hM⟩ := o_bd hM
              refine af_i (ws2 := (w_Tq_day cI cJ cS q_t q_t_plan q_t_counter q_t_choices q_t_ringers q_t_readings q_t_sheets q_t_plan_kinds q_t_plan_comes q_t_plan_wants q_t_plan_outs q_t_readings_persons q_t_readings_minutes q_t_sh0 q_t_sh0_cells q_t_sh1 q_t_sh1_cells q_t_sh2 q_t_sh2_cells q_t_sh3 q_t_sh3_cells t_traced y30.2 t_plan_law t_plan_count t_plan_bells t_plan_kinds t_plan_comes t_plan_wants t_plan_outs t_readings_count t_sh_lane t_sh_size t_sh_cells)) (va_runV (As := [.int 4]) (rest := []) ⟨hx, hb, hml, hown, hts⟩ (c_Tq_faulted l D cI cJ cS q_t q_t_plan q_t_counter q_t_choices q_t_ringers q_t_readings q_t_sheets t_traced t_lastFault 4 y30 h31 _) (cwV 1 hts gX8_day_X8_faulted rfl rfl rfl (by decide +kernel) ⟨(Nat.le_of_ble_eq_true rfl), (Nat.le_of_ble_eq_true rfl)⟩) (pre_V hK hP hD [0] rfl rfl rfl rfl) rfl rfl hl.1 rfl (lv_room (Nat.le_of_ble_eq_true rfl)) dX8_day_71 ⟨Nat.zero_le _, Nat.zero_le _⟩) hP hD hS hA [0] [1, 2, 3, 4, 5, 6, 7, 8, 9, 10, 11, 12, 13, 14, 15] [15, 0, 1, 2, 3, 4, 5, 6, 7, 8, 9, 10, 11, 12, 13, 14] rfl rfl rfl (by decide) rfl rfl (fun H locs hP hD hS => ?_)
              have hM := (Option.some.inj hM)
              subst hM
              exact rt_i hx hb hr hlocks hP hD hS dX8_day_74
          · have hM := (o_if hM).2 c14
            refine lv_aload_n hx hb dX8_day_58 rfl (lv_at hl 1 rfl) ?_
            refine lv_iconst (v := 1) hx hb dX8_day_59 (by decide) ?_
            obtain ⟨y32, h33, hM⟩ := o_bd hM
            refine af_i (ws2 := (w_Tq_day cI cJ cS q_t q_t_plan q_t_counter q_t_choices q_t_ringers q_t_readings q_t_sheets q_t_plan_kinds q_t_plan_comes q_t_plan_wants q_t_plan_outs q_t_readings_persons q_t_readings_minutes q_t_sh0 q_t_sh0_cells q_t_sh1 q_t_sh1_cells q_t_sh2 q_t_sh2_cells q_t_sh3 q_t_sh3_cells t_traced y32.2 t_plan_law t_plan_count t_plan_bells t_plan_kinds t_plan_comes t_plan_wants t_plan_outs t_readings_count t_sh_lane t_sh_size t_sh_cells)) (va_runV (As := [.int 1]) (rest := []) ⟨hx, hb, hml, hown, hts⟩ (c_Tq_faulted l D cI cJ cS q_t q_t_plan q_t_counter q_t_choices q_t_ringers q_t_readings q_t_sheets t_traced t_lastFault 1 y32 h33 _) (cwV 1 hts gX8_day_X8_faulted rfl rfl rfl (by decide +kernel) ⟨(Nat.le_of_ble_eq_true rfl), (Nat.le_of_ble_eq_true rfl)⟩) (pre_V hK hP hD [0] rfl rfl rfl rfl) rfl rfl hl.1 rfl (lv_room (Nat.le_of_ble_eq_true rfl)) dX8_day_60 ⟨Nat.zero_le _, Nat.zero_le _⟩) hP hD hS hA [0] [1, 2, 3, 4, 5, 6, 7, 8, 9, 10, 11, 12, 13, 14, 15] [15, 0, 1, 2, 3, 4, 5, 6, 7, 8, 9, 10, 11, 12, 13, 14] rfl rfl rfl (by decide) rfl rfl (fun H locs hP hD hS => ?_)
            have hM := (Option.some.inj hM)
            subst hM
            exact rt_i hx hb hr hlocks hP hD hS dX8_day_63
        · have hM := (o_if hM).2 c11
          refine lv_aload_n hx hb dX8_day_44 rfl (lv_at hl 1 rfl) ?_
          refine lv_iconst (v := 2) hx hb dX8_day_45 (by decide) ?_
          obtain ⟨y34, h35, hM⟩ := o_bd hM
          refine af_i (ws2 := (w_Tq_day cI cJ cS q_t q_t_plan q_t_counter q_t_choices q_t_ringers q_t_readings q_t_sheets q_t_plan_kinds q_t_plan_comes q_t_plan_wants q_t_plan_outs q_t_readings_persons q_t_readings_minutes q_t_sh0 q_t_sh0_cells q_t_sh1 q_t_sh1_cells q_t_sh2 q_t_sh2_cells q_t_sh3 q_t_sh3_cells t_traced y34.2 t_plan_law t_plan_count t_plan_bells t_plan_kinds t_plan_comes t_plan_wants t_plan_outs t_readings_count t_sh_lane t_sh_size t_sh_cells)) (va_runV (As := [.int 2]) (rest := []) ⟨hx, hb, hml, hown, hts⟩ (c_Tq_faulted l D cI cJ cS q_t q_t_plan q_t_counter q_t_choices q_t_ringers q_t_readings q_t_sheets t_traced t_lastFault 2 y34 h35 _) (cwV 1 hts gX8_day_X8_faulted rfl rfl rfl (by decide +kernel) ⟨(Nat.le_of_ble_eq_true rfl), (Nat.le_of_ble_eq_true rfl)⟩) (pre_V hK hP hD [0] rfl rfl rfl rfl) rfl rfl hl.1 rfl (lv_room (Nat.le_of_ble_eq_true rfl)) dX8_day_46 ⟨Nat.zero_le _, Nat.zero_le _⟩) hP hD hS hA [0] [1, 2, 3, 4, 5, 6, 7, 8, 9, 10, 11, 12, 13, 14, 15] [15, 0, 1, 2, 3, 4, 5, 6, 7, 8, 9, 10, 11, 12, 13, 14] rfl rfl rfl (by decide) rfl rfl (fun H locs hP hD hS => ?_)
          have hM := (Option.some.inj hM)
          subst hM
          exact rt_i hx hb hr hlocks hP hD hS dX8_day_49
      · refine W.eq (g2 := F0 m 33 ls [.ref q_t_sh2]) rfl ?_
        refine lv_astore (lv' := [(5, .ref q_t_sh2), (0, .ref q_t), (1, .int p_sheet), (2, .int p_lane), (3, .int p_i), (4, .int p_n)]) hx hb dX8_day_33 hl (Nat.le_of_ble_eq_true rfl) rfl (fun ls hl => ?_)
        refine lv_aload hx hb dX8_day_35 (lv_at hl 0 rfl) ?_
        refine lv_iload_n hx hb dX8_day_37 rfl (lv_at hl 3 rfl) ?_
        obtain ⟨y9, h10, hM⟩ := o_bd hM
        refine af_i (ws2 := (w_Tq_day cI cJ cS q_t q_t_plan q_t_counter q_t_choices q_t_ringers q_t_readings q_t_sheets q_t_plan_kinds q_t_plan_comes q_t_plan_wants q_t_plan_outs q_t_readings_persons q_t_readings_minutes q_t_sh0 q_t_sh0_cells q_t_sh1 q_t_sh1_cells q_t_sh2 q_t_sh2_cells q_t_sh3 q_t_sh3_cells t_traced t_lastFault t_plan_law t_plan_count t_plan_bells t_plan_kinds t_plan_comes t_plan_wants t_plan_outs t_readings_count t_sh_lane t_sh_size t_sh_cells)) (va_runV (As := [.int p_lane]) (rest := []) ⟨hx, hb, hml, hown, hts⟩ (c_Sh_isOfAnother l D cI cJ cS q_t_sh2 q_t_sh2_cells (t_sh_lane 2) (t_sh_size 2) p_lane y9 h10 _) (cwV 1 hts gX8_day_X6_isOfAnother rfl rfl rfl (by decide +kernel) ⟨(Nat.le_of_ble_eq_true rfl), (Nat.le_of_ble_eq_true rfl)⟩) (pre_V hK hP hD [12] rfl rfl rfl rfl) rfl rfl hl.1 rfl (lv_room (Nat.le_of_ble_eq_true rfl)) dX8_day_38 ⟨Nat.zero_le _, Nat.zero_le _⟩) hP hD hS hA [12] [0, 1, 2, 3, 4, 5, 6, 7, 8, 9, 10, 11, 13, 14, 15] [0, 1, 2, 3, 4, 5, 6, 7, 8, 9, 10, 11, 15, 12, 13, 14] rfl rfl rfl (by decide) rfl rfl (fun H locs hP hD hS => ?_)
        refine lv_if_eq (tgt := 50) hx hb dX8_day_41 (by decide) (fun c11 => ?_) (fun c11 => ?_)
        · have hM := (o_if hM).1 c11
          refine lv_aload hx hb dX8_day_50 (lv_at hl 0 rfl) ?_
          obtain ⟨y12, h13, hM⟩ := o_bd hM
          refine af_i (ws2 := (w_Tq_day cI cJ cS q_t q_t_plan q_t_counter q_t_choices q_t_ringers q_t_readings q_t_sheets q_t_plan_kinds q_t_plan_comes q_t_plan_wants q_t_plan_outs q_t_readings_persons q_t_readings_minutes q_t_sh0 q_t_sh0_cells q_t_sh1 q_t_sh1_cells q_t_sh2 q_t_sh2_cells q_t_sh3 q_t_sh3_cells t_traced t_lastFault t_plan_law t_plan_count t_plan_bells t_plan_kinds t_plan_comes t_plan_wants t_plan_outs t_readings_count t_sh_lane t_sh_size t_sh_cells)) (va_runV (As := []) (rest := []) ⟨hx, hb, hml, hown, hts⟩ (c_Sh_hasNothing l D cI cJ cS q_t_sh2 q_t_sh2_cells (t_sh_lane 2) (t_sh_size 2) y12 h13 _) (cwV 0 hts gX8_day_X6_hasNothing rfl rfl rfl (by decide +kernel) ⟨(Nat.le_of_ble_eq_true rfl), (Nat.le_of_ble_eq_true rfl)⟩) (pre_V hK hP hD [12] rfl rfl rfl rfl) rfl rfl hl.1 rfl (lv_room (Nat.le_of_ble_eq_true rfl)) dX8_day_52 ⟨Nat.zero_le _, Nat.zero_le _⟩) hP hD hS hA [12] [0, 1, 2, 3, 4, 5, 6, 7, 8, 9, 10, 11, 13, 14, 15] [0, 1, 2, 3, 4, 5, 6, 7, 8, 9, 10, 11, 15, 12, 13, 14] rfl rfl rfl (by decide) rfl rfl (fun H locs hP hD hS => ?_)
          refine lv_if_eq (tgt := 64) hx hb dX8_day_55 (by decide) (fun c14 => ?_) (fun c14 => ?_)
          · have hM := (o_if hM).1 c14
            refine lv_iload hx hb dX8_day_64 (lv_at hl 5 rfl) ?_
            refine lv_if_ge (tgt := 75) hx hb dX8_day_66 (by decide) (fun c15 => ?_) (fun c15 => ?_)
            · have hM := (o_if hM).1 c15
              refine lv_aload hx hb dX8_day_75 (lv_at hl 0 rfl) ?_
              refine lv_iload_n hx hb dX8_day_77 rfl (lv_at hl 4 rfl) ?_
              refine lv_iload hx hb dX8_day_78 (lv_at hl 5 rfl) ?_
              obtain ⟨y16, h17, hM⟩ := o_bd hM
              refine af_i (ws2 := (w_Tq_day cI cJ cS q_t q_t_plan q_t_counter q_t_choices q_t_ringers q_t_readings q_t_sheets q_t_plan_kinds q_t_plan_comes q_t_plan_wants q_t_plan_outs q_t_readings_persons q_t_readings_minutes q_t_sh0 q_t_sh0_cells q_t_sh1 q_t_sh1_cells q_t_sh2 q_t_sh2_cells q_t_sh3 q_t_sh3_cells t_traced t_lastFault t_plan_law t_plan_count t_plan_bells t_plan_kinds t_plan_comes t_plan_wants t_plan_outs t_readings_count t_sh_lane t_sh_size t_sh_cells)) (va_runV (As := [.int p_i, .int p_n]) (rest := []) ⟨hx, hb, hml, hown, hts⟩ (c_Sh_holds l D cI cJ cS q_t_sh2 q_t_sh2_cells (t_sh_lane 2) (t_sh_size 2) p_i p_n y16 h17 _) (cwV 2 hts gX8_day_X6_holds rfl rfl rfl (by decide +kernel) ⟨(Nat.le_of_ble_eq_true rfl), (Nat.le_of_ble_eq_true rfl)⟩) (pre_V hK hP hD [12] rfl rfl rfl rfl) rfl rfl hl.1 rfl (lv_room (Nat.le_of_ble_eq_true rfl)) dX8_day_80 ⟨Nat.zero_le _, Nat.zero_le _⟩) hP hD hS hA [12] [0, 1, 2, 3, 4, 5, 6, 7, 8, 9, 10, 11, 13, 14, 15] [0, 1, 2, 3, 4, 5, 6, 7, 8, 9, 10, 11, 15, 12, 13, 14] rfl rfl rfl (by decide) rfl rfl (fun H locs hP hD hS => ?_)
              refine lv_if_ne (tgt := 92) hx hb dX8_day_83 (by decide) (fun c18 => ?_) (fun c18 => ?_)
              · have hM := (o_if hM).2 c18
                refine lv_aload hx hb dX8_day_92 (lv_at hl 0 rfl) ?_
                refine lv_iload_n hx hb dX8_day_94 rfl (lv_at hl 4 rfl) ?_
                refine lv_iload hx hb dX8_day_95 (lv_at hl 5 rfl) ?_
                obtain ⟨y19, h20, hM⟩ := o_bd hM
                refine af_i (ws2 := (w_Tq_day cI cJ cS q_t q_t_plan q_t_counter q_t_choices q_t_ringers q_t_readings q_t_sheets q_t_plan_kinds q_t_plan_comes q_t_plan_wants q_t_plan_outs q_t_readings_persons q_t_readings_minutes q_t_sh0 q_t_sh0_cells q_t_sh1 q_t_sh1_cells q_t_sh2 q_t_sh2_cells q_t_sh3 q_t_sh3_cells t_traced t_lastFault t_plan_law t_plan_count t_plan_bells t_plan_kinds t_plan_comes t_plan_wants t_plan_outs t_readings_count t_sh_lane t_sh_size t_sh_cells)) (va_runS (As := [.ref q_t_sh2, .int p_i, .int p_n]) (rest := []) ⟨hx, hb, hml, hown, hts⟩ (c_Te_firstFault l D cI cJ cS q_t_sh2 q_t_sh2_cells (t_sh_lane 2) (t_sh_size 2) (t_sh_cells 2) p_i p_n y19 h20 _) (va_cwS 3 hts gX8_day_X7_firstFault rfl rfl rfl (by decide +kernel) ⟨(Nat.le_of_ble_eq_true rfl), (Nat.le_of_ble_eq_true rfl)⟩) (pre_S hK hP hD [12, 13] rfl rfl) rfl rfl hl.1 rfl (lv_room (Nat.le_of_ble_eq_true rfl)) dX8_day_97 ⟨Nat.zero_le _, Nat.zero_le _⟩) hP hD hS hA [12, 13] [0, 1, 2, 3, 4, 5, 6, 7, 8, 9, 10, 11, 14, 15] [0, 1, 2, 3, 4, 5, 6, 7, 8, 9, 10, 11, 14, 15, 12, 13] rfl rfl rfl (by decide) rfl rfl (fun H locs hP hD hS => ?_)
                refine lv_istore (lv' := [(6, .int y19), (5, .ref q_t_sh2), (0, .ref q_t), (1, .int p_sheet), (2, .int p_lane), (3, .int p_i), (4, .int p_n)]) hx hb dX8_day_100 hl (Nat.le_of_ble_eq_true rfl) rfl (fun ls hl => ?_)
                refine lv_iload hx hb dX8_day_102 (lv_at hl 0 rfl) ?_
                refine lv_bipush (v := (-9)) hx hb dX8_day_104 (by decide) ?_
                refine lv_icmp_eq (tgt := 119) hx hb dX8_day_106 (by decide) (fun c21 => ?_) (fun c21 => ?_)
                · have hM := (o_if hM).1 c21
                  refine lv_aload_n hx hb dX8_day_119 rfl (lv_at hl 2 rfl) ?_
                  refine va_get (ci := 7) (v := .ref q_t_plan) (C := RX8) (T := TX8) (N := 8) hx hb hts iX8 hown hK.1 hP 0 rfl rfl 0 (Nat.le_of_ble_eq_true rfl) k1 (fun _ h9 => h9) rfl dX8_day_120 ?_
                  refine lv_aload hx hb dX8_day_123 (lv_at hl 1 rfl) ?_
                  refine lv_iload_n hx hb dX8_day_125 rfl (lv_at hl 5 rfl) ?_
                  refine lv_iload hx hb dX8_day_126 (lv_at hl 6 rfl) ?_
                  obtain ⟨y22, h23, hM⟩ := o_bd hM
                  refine af_v (ws2 := (w_Tq_day cI cJ cS q_t q_t_plan q_t_counter q_t_choices q_t_ringers q_t_readings q_t_sheets q_t_plan_kinds q_t_plan_comes q_t_plan_wants q_t_plan_outs q_t_readings_persons q_t_readings_minutes q_t_sh0 q_t_sh0_cells q_t_sh1 q_t_sh1_cells q_t_sh2 q_t_sh2_cells q_t_sh3 q_t_sh3_cells t_traced t_lastFault y22.1 y22.2.1 y22.2.2.1 y22.2.2.2.1 y22.2.2.2.2.1 y22.2.2.2.2.2.1 y22.2.2.2.2.2.2 t_readings_count t_sh_lane t_sh_size t_sh_cells)) (va_runS (As := [.ref q_t_plan, .ref q_t_sh2, .int p_i, .int p_n]) (rest := []) ⟨hx, hb, hml, hown, hts⟩ (c_Te_readInto l D cI cJ cS q_t_plan q_t_sh2 q_t_plan_kinds q_t_plan_comes q_t_plan_wants q_t_plan_outs q_t_sh2_cells t_plan_law t_plan_count t_plan_bells t_plan_kinds t_plan_comes t_plan_wants t_plan_outs (t_sh_lane 2) (t_sh_size 2) (t_sh_cells 2) p_i p_n y22 h23 _) (va_cwS 4 hts gX8_day_X7_readInto rfl rfl rfl (by decide +kernel) ⟨(Nat.le_of_ble_eq_true rfl), (Nat.le_of_ble_eq_true rfl)⟩) (pre_S hK hP hD [1, 2, 3, 4, 5, 12, 13] rfl rfl) rfl rfl hl.1 rfl (lv_room (Nat.le_of_ble_eq_true rfl)) dX8_day_128 ⟨Nat.zero_le _, Nat.zero_le _⟩) hP hD hS hA [1, 2, 3, 4, 5, 12, 13] [0, 6, 7, 8, 9, 10, 11, 14, 15] [0, 9, 10, 11, 12, 13, 1, 2, 3, 4, 5, 6, 14, 15, 7, 8] rfl rfl rfl (by decide) rfl rfl (fun H locs hP hD hS => ?_)
                  refine lv_aload_n hx hb dX8_day_131 rfl (lv_at hl 2 rfl) ?_
                  refine va_get (ci := 7) (v := .ref q_t_readings) (C := RX8) (T := TX8) (N := 8) hx hb hts iX8 hown hK.1 hP 0 rfl rfl 4 (Nat.le_of_ble_eq_true rfl) k2 (fun _ h9 => h9) rfl dX8_day_132 ?_
                  refine lv_iconst (v := 0) hx hb dX8_day_135 (by decide) ?_
                  refine va_put (ci := 4) (v := .int 0) (ty := .int) (C := RX4) (T := TX4) (N := 3) hx hb hts iX4 tyX4 tyX4_ok nmX4 hown hK.1 hP hD hS 6 rfl rfl 2 (Nat.le_of_ble_eq_true rfl) k3 (fun _ h9 => h9) rfl (tyX4_ok 2 (Nat.le_of_ble_eq_true rfl)) rfl rfl (Nat.le_of_ble_eq_true rfl) dX8_day_136 (fun H locs hP hD hS => ?_)
                  have hP : va_P D vwCl (w_Tq_day cI cJ cS q_t q_t_plan q_t_counter q_t_choices q_t_ringers q_t_readings q_t_sheets q_t_plan_kinds q_t_plan_comes q_t_plan_wants q_t_plan_outs q_t_readings_persons q_t_readings_minutes q_t_sh0 q_t_sh0_cells q_t_sh1 q_t_sh1_cells q_t_sh2 q_t_sh2_cells q_t_sh3 q_t_sh3_cells t_traced t_lastFault y22.1 y22.2.1 y22.2.2.1 y22.2.2.2.1 y22.2.2.2.2.1 y22.2.2.2.2.2.1 y22.2.2.2.2.2.2 0 t_sh_lane t_sh_size t_sh_cells) H := hP
                  have hD : va_D A (w_Tq_day cI cJ cS q_t q_t_plan q_t_counter q_t_choices q_t_ringers q_t_readings q_t_sheets q_t_plan_kinds q_t_plan_comes q_t_plan_wants q_t_plan_outs q_t_readings_persons q_t_readings_minutes q_t_sh0 q_t_sh0_cells q_t_sh1 q_t_sh1_cells q_t_sh2 q_t_sh2_cells q_t_sh3 q_t_sh3_cells t_traced t_lastFault y22.1 y22.2.1 y22.2.2.1 y22.2.2.2.1 y22.2.2.2.2.1 y22.2.2.2.2.2.1 y22.2.2.2.2.2.2 0 t_sh_lane t_sh_size t_sh_cells) := hD
                  refine lv_aload_n hx hb dX8_day_139 rfl (lv_at hl 2 rfl) ?_
                  refine lv_aload_n hx hb dX8_day_140 rfl (lv_at hl 2 rfl) ?_
                  refine va_get (ci := 7) (v := .ref q_t_plan) (C := RX8) (T := TX8) (N := 8) hx hb hts iX8 hown hK.1 hP 0 rfl rfl 0 (Nat.le_of_ble_eq_true rfl) k1 (fun _ h9 => h9) rfl dX8_day_141 ?_
                  refine va_get (ci := 3) (v := .int y22.2.1) (C := RX3) (T := TX3) (N := 7) hx hb hts iX3 hown hK.1 hP 1 rfl rfl 1 (Nat.le_of_ble_eq_true rfl) k4 (fun _ h9 => h9) rfl dX8_day_144 ?_
                  obtain ⟨y24, h25, hM⟩ := o_bd hM
                  refine af_i (ws2 := (w_Tq_day cI cJ cS q_t q_t_plan q_t_counter q_t_choices q_t_ringers q_t_readings q_t_sheets q_t_plan_kinds q_t_plan_comes q_t_plan_wants q_t_plan_outs q_t_readings_persons q_t_readings_minutes q_t_sh0 q_t_sh0_cells q_t_sh1 q_t_sh1_cells q_t_sh2 q_t_sh2_cells q_t_sh3 q_t_sh3_cells t_traced y24.2 y22.1 y22.2.1 y22.2.2.1 y22.2.2.2.1 y22.2.2.2.2.1 y22.2.2.2.2.2.1 y22.2.2.2.2.2.2 0 t_sh_lane t_sh_size t_sh_cells)) (va_runV (As := [.int y22.2.1]) (rest := []) ⟨hx, hb, hml, hown, hts⟩ (c_Tq_faultless l D cI cJ cS q_t q_t_plan q_t_counter q_t_choices q_t_ringers q_t_readings q_t_sheets t_traced t_lastFault y22.2.1 y24 h25 _) (cwV 1 hts gX8_day_X8_faultless rfl rfl rfl (by decide +kernel) ⟨(Nat.le_of_ble_eq_true rfl), (Nat.le_of_ble_eq_true rfl)⟩) (pre_V hK hP hD [0] rfl rfl rfl rfl) rfl rfl hl.1 rfl (lv_room (Nat.le_of_ble_eq_true rfl)) dX8_day_147 ⟨Nat.zero_le _, Nat.zero_le _⟩) hP hD hS hA [0] [1, 2, 3, 4, 5, 6, 7, 8, 9, 10, 11, 12, 13, 14, 15] [15, 0, 1, 2, 3, 4, 5, 6, 7, 8, 9, 10, 11, 12, 13, 14] rfl rfl rfl (by decide) rfl rfl (fun H locs hP hD hS => ?_)
                  have hM := (Option.some.inj hM)
                  subst hM
                  exact rt_i hx hb hr hlocks hP hD hS dX8_day_150
                · have hM := (o_if hM).2 c21
                  refine lv_aload_n hx hb dX8_day_109 rfl (lv_at hl 2 rfl) ?_
                  refine lv_bipush (v := (-100)) hx hb dX8_day_110 (by decide) ?_
                  refine lv_iload hx hb dX8_day_112 (lv_at hl 0 rfl) ?_
                  refine lv_isub hx hb dX8_day_114 ?_
                  obtain ⟨y26, h27, hM⟩ := o_bd hM
                  refine af_i (ws2 := (w_Tq_day cI cJ cS q_t q_t_plan q_t_counter q_t_choices q_t_ringers q_t_readings q_t_sheets q_t_plan_kinds q_t_plan_comes q_t_plan_wants q_t_plan_outs q_t_readings_persons q_t_readings_minutes q_t_sh0 q_t_sh0_cells q_t_sh1 q_t_sh1_cells q_t_sh2 q_t_sh2_cells q_t_sh3 q_t_sh3_cells t_traced y26.2 t_plan_law t_plan_count t_plan_bells t_plan_kinds t_plan_comes t_plan_wants t_plan_outs t_readings_count t_sh_lane t_sh_size t_sh_cells)) (va_runV (As := [.int ((-100) - y19)]) (rest := []) ⟨hx, hb, hml, hown, hts⟩ (c_Tq_faultless l D cI cJ cS q_t q_t_plan q_t_counter q_t_choices q_t_ringers q_t_readings q_t_sheets t_traced t_lastFault ((-100) - y19) y26 h27 _) (cwV 1 hts gX8_day_X8_faultless rfl rfl rfl (by decide +kernel) ⟨(Nat.le_of_ble_eq_true rfl), (Nat.le_of_ble_eq_true rfl)⟩) (pre_V hK hP hD [0] rfl rfl rfl rfl) rfl rfl hl.1 rfl (lv_room (Nat.le_of_ble_eq_true rfl)) dX8_day_115 ⟨Nat.zero_le _, Nat.zero_le _⟩) hP hD hS hA [0] [1, 2, 3, 4, 5, 6, 7, 8, 9, 10, 11, 12, 13, 14, 15] [15, 0, 1, 2, 3, 4, 5, 6, 7, 8, 9, 10, 11, 12, 13, 14] rfl rfl rfl (by decide) rfl rfl (fun H locs hP hD hS => ?_)
                  have hM := (Option.some.inj hM)
                  subst hM
                  exact rt_i hx hb hr hlocks hP hD hS dX8_day_118
              · have hM := (o_if hM).1 c18
                refine lv_aload_n hx hb dX8_day_86 rfl (lv_at hl 1 rfl) ?_
                refine lv_iconst (v := 3) hx hb dX8_day_87 (by decide) ?_
                obtain ⟨y28, h29, hM⟩ := o_bd hM
                refine af_i (ws2 := (w_Tq_day cI cJ cS q_t q_t_plan q_t_counter q_t_choices q_t_ringers q_t_readings q_t_sheets q_t_plan_kinds q_t_plan_comes q_t_plan_wants q_t_plan_outs q_t_readings_persons q_t_readings_minutes q_t_sh0 q_t_sh0_cells q_t_sh1 q_t_sh1_cells q_t_sh2 q_t_sh2_cells q_t_sh3 q_t_sh3_cells t_traced y28.2 t_plan_law t_plan_count t_plan_bells t_plan_kinds t_plan_comes t_plan_wants t_plan_outs t_readings_count t_sh_lane t_sh_size t_sh_cells)) (va_runV (As := [.int 3]) (rest := []) ⟨hx, hb, hml, hown, hts⟩ (c_Tq_faulted l D cI cJ cS q_t q_t_plan q_t_counter q_t_choices q_t_ringers q_t_readings q_t_sheets t_traced t_lastFault 3 y28 h29 _) (cwV 1 hts gX8_day_X8_faulted rfl rfl rfl (by decide +kernel) ⟨(Nat.le_of_ble_eq_true rfl), (Nat.le_of_ble_eq_true rfl)⟩) (pre_V hK hP hD [0] rfl rfl rfl rfl) rfl rfl hl.1 rfl (lv_room (Nat.le_of_ble_eq_true rfl)) dX8_day_88 ⟨Nat.zero_le _, Nat.zero_le _⟩) hP hD hS hA [0] [1, 2, 3, 4, 5, 6, 7, 8, 9, 10, 11, 12, 13, 14, 15] [15, 0, 1, 2, 3, 4, 5, 6, 7, 8, 9, 10, 11, 12, 13, 14] rfl rfl rfl (by decide) rfl rfl (fun H locs hP hD hS => ?_)
                have hM := (Option.some.inj hM)
                subst hM
                exact rt_i hx hb hr hlocks hP hD hS dX8_day_91
            · have hM := (o_if hM).2 c15
              refine lv_aload_n hx hb dX8_day_69 rfl (lv_at hl 1 rfl) ?_
              refine lv_iconst (v := 4) hx hb dX8_day_70 (by decide) ?_
              obtain ⟨y30, h31, hM⟩ := o_bd hM
              refine af_i (ws2 := (w_Tq_day cI cJ cS q_t q_t_plan q_t_counter q_t_choices q_t_ringers q_t_readings q_t_sheets q_t_plan_kinds q_t_plan_comes q_t_plan_wants q_t_plan_outs q_t_readings_persons q_t_readings_minutes q_t_sh0 q_t_sh0_cells q_t_sh1 q_t_sh1_cells q_t_sh2 q_t_sh2_cells q_t_sh3 q_t_sh3_cells t_traced y30.2 t_plan_law t_plan_count t_plan_bells t_plan_kinds t_plan_comes t_plan_wants t_plan_outs t_readings_count t_sh_lane t_sh_size t_sh_cells)) (va_runV (As := [.int 4]) (rest := []) ⟨hx, hb, hml, hown, hts⟩ (c_Tq_faulted l D cI cJ cS q_t q_t_plan q_t_counter q_t_choices q_t_ringers q_t_readings q_t_sheets t_traced t_lastFault 4 y30 h31 _) (cwV 1 hts gX8_day_X8_faulted rfl rfl rfl (by decide +kernel) ⟨(Nat.le_of_ble_eq_true rfl), (Nat.le_of_ble_eq_true rfl)⟩) (pre_V hK hP hD [0] rfl rfl rfl rfl) rfl rfl hl.1 rfl (lv_room (Nat.le_of_ble_eq_true rfl)) dX8_day_71 ⟨Nat.zero_le _, Nat.zero_le _⟩) hP hD hS hA [0] [1, 2, 3, 4, 5, 6, 7, 8, 9, 10, 11, 12, 13, 14, 15] [15, 0, 1, 2, 3, 4, 5, 6, 7, 8, 9, 10, 11, 12, 13, 14] rfl rfl rfl (by decide) rfl rfl (fun H locs hP hD hS => ?_)
              have hM := (Option.some.inj hM)
              subst hM
              exact rt_i hx hb hr hlocks hP hD hS dX8_day_74
          · have hM := (o_if hM).2 c14
            refine lv_aload_n hx hb dX8_day_58 rfl (lv_at hl 1 rfl) ?_
            refine lv_iconst (v := 1) hx hb dX8_day_59 (by decide) ?_
            obtain ⟨y32, h33, hM⟩ := o_bd hM
            refine af_i (ws2 := (w_Tq_day cI cJ cS q_t q_t_plan q_t_counter q_t_choices q_t_ringers q_t_readings q_t_sheets q_t_plan_kinds q_t_plan_comes q_t_plan_wants q_t_plan_outs q_t_readings_persons q_t_readings_minutes q_t_sh0 q_t_sh0_cells q_t_sh1 q_t_sh1_cells q_t_sh2 q_t_sh2_cells q_t_sh3 q_t_sh3_cells t_traced y32.2 t_plan_law t_plan_count t_plan_bells t_plan_kinds t_plan_comes t_plan_wants t_plan_outs t_readings_count t_sh_lane t_sh_size t_sh_cells)) (va_runV (As := [.int 1]) (rest := []) ⟨hx, hb, hml, hown, hts⟩ (c_Tq_faulted l D cI cJ cS q_t q_t_plan q_t_counter q_t_choices q_t_ringers q_t_readings q_t_sheets t_traced t_lastFault 1 y32 h33 _) (cwV 1 hts gX8_day_X8_faulted rfl rfl rfl (by decide +kernel) ⟨(Nat.le_of_ble_eq_true rfl), (Nat.le_of_ble_eq_true rfl)⟩) (pre_V hK hP hD [0] rfl rfl rfl rfl) rfl rfl hl.1 rfl (lv_room (Nat.le_of_ble_eq_true rfl)) dX8_day_60 ⟨Nat.zero_le _, Nat.zero_le _⟩) hP hD hS hA [0] [1, 2, 3, 4, 5, 6, 7, 8, 9, 10, 11, 12, 13, 14, 15] [15, 0, 1, 2, 3, 4, 5, 6, 7, 8, 9, 10, 11, 12, 13, 14] rfl rfl rfl (by decide) rfl rfl (fun H locs hP hD hS => ?_)
            have hM := (Option.some.inj hM)
            subst hM
            exact rt_i hx hb hr hlocks hP hD hS dX8_day_63
        · have hM := (o_if hM).2 c11
          refine lv_aload_n hx hb dX8_day_44 rfl (lv_at hl 1 rfl) ?_
          refine lv_iconst (v := 2) hx hb dX8_day_45 (by decide) ?_
          obtain ⟨y34, h35, hM⟩ := o_bd hM
          refine af_i (ws2 := (w_Tq_day cI cJ cS q_t q_t_plan q_t_counter q_t_choices q_t_ringers q_t_readings q_t_sheets q_t_plan_kinds q_t_plan_comes q_t_plan_wants q_t_plan_outs q_t_readings_persons q_t_readings_minutes q_t_sh0 q_t_sh0_cells q_t_sh1 q_t_sh1_cells q_t_sh2 q_t_sh2_cells q_t_sh3 q_t_sh3_cells t_traced y34.2 t_plan_law t_plan_count t_plan_bells t_plan_kinds t_plan_comes t_plan_wants t_plan_outs t_readings_count t_sh_lane t_sh_size t_sh_cells)) (va_runV (As := [.int 2]) (rest := []) ⟨hx, hb, hml, hown, hts⟩ (c_Tq_faulted l D cI cJ cS q_t q_t_plan q_t_counter q_t_choices q_t_ringers q_t_readings q_t_sheets t_traced t_lastFault 2 y34 h35 _) (cwV 1 hts gX8_day_X8_faulted rfl rfl rfl (by decide +kernel) ⟨(Nat.le_of_ble_eq_true rfl), (Nat.le_of_ble_eq_true rfl)⟩) (pre_V hK hP hD [0] rfl rfl rfl rfl) rfl rfl hl.1 rfl (lv_room (Nat.le_of_ble_eq_true rfl)) dX8_day_46 ⟨Nat.zero_le _, Nat.zero_le _⟩) hP hD hS hA [0] [1, 2, 3, 4, 5, 6, 7, 8, 9, 10, 11, 12, 13, 14, 15] [15, 0, 1, 2, 3, 4, 5, 6, 7, 8, 9, 10, 11, 12, 13, 14] rfl rfl rfl (by decide) rfl rfl (fun H locs hP hD hS => ?_)
          have hM := (Option.some.inj hM)
          subst hM
          exact rt_i hx hb hr hlocks hP hD hS dX8_day_49
      · refine W.eq (g2 := F0 m 33 ls [.ref q_t_sh3]) rfl ?_
        refine lv_astore (lv' := [(5, .ref q_t_sh3), (0, .ref q_t), (1, .int p_sheet), (2, .int p_lane), (3, .int p_i), (4, .int p_n)]) hx hb dX8_day_33 hl (Nat.le_of_ble_eq_true rfl) rfl (fun ls hl => ?_)
        refine lv_aload hx hb dX8_day_35 (lv_at hl 0 rfl) ?_
        refine lv_iload_n hx hb dX8_day_37 rfl (lv_at hl 3 rfl) ?_
        obtain ⟨y9, h10, hM⟩ := o_bd hM
        refine af_i (ws2 := (w_Tq_day cI cJ cS q_t q_t_plan q_t_counter q_t_choices q_t_ringers q_t_readings q_t_sheets q_t_plan_kinds q_t_plan_comes q_t_plan_wants q_t_plan_outs q_t_readings_persons q_t_readings_minutes q_t_sh0 q_t_sh0_cells q_t_sh1 q_t_sh1_cells q_t_sh2 q_t_sh2_cells q_t_sh3 q_t_sh3_cells t_traced t_lastFault t_plan_law t_plan_count t_plan_bells t_plan_kinds t_plan_comes t_plan_wants t_plan_outs t_readings_count t_sh_lane t_sh_size t_sh_cells)) (va_runV (As := [.int p_lane]) (rest := []) ⟨hx, hb, hml, hown, hts⟩ (c_Sh_isOfAnother l D cI cJ cS q_t_sh3 q_t_sh3_cells (t_sh_lane 3) (t_sh_size 3) p_lane y9 h10 _) (cwV 1 hts gX8_day_X6_isOfAnother rfl rfl rfl (by decide +kernel) ⟨(Nat.le_of_ble_eq_true rfl), (Nat.le_of_ble_eq_true rfl)⟩) (pre_V hK hP hD [14] rfl rfl rfl rfl) rfl rfl hl.1 rfl (lv_room (Nat.le_of_ble_eq_true rfl)) dX8_day_38 ⟨Nat.zero_le _, Nat.zero_le _⟩) hP hD hS hA [14] [0, 1, 2, 3, 4, 5, 6, 7, 8, 9, 10, 11, 12, 13, 15] [0, 1, 2, 3, 4, 5, 6, 7, 8, 9, 10, 11, 12, 13, 15, 14] rfl rfl rfl (by decide) rfl rfl (fun H locs hP hD hS => ?_)
        refine lv_if_eq (tgt := 50) hx hb dX8_day_41 (by decide) (fun c11 => ?_) (fun c11 => ?_)
        · have hM := (o_if hM).1 c11
          refine lv_aload hx hb dX8_day_50 (lv_at hl 0 rfl) ?_
          obtain ⟨y12, h13, hM⟩ := o_bd hM
          refine af_i (ws2 := (w_Tq_day cI cJ cS q_t q_t_plan q_t_counter q_t_choices q_t_ringers q_t_readings q_t_sheets q_t_plan_kinds q_t_plan_comes q_t_plan_wants q_t_plan_outs q_t_readings_persons q_t_readings_minutes q_t_sh0 q_t_sh0_cells q_t_sh1 q_t_sh1_cells q_t_sh2 q_t_sh2_cells q_t_sh3 q_t_sh3_cells t_traced t_lastFault t_plan_law t_plan_count t_plan_bells t_plan_kinds t_plan_comes t_plan_wants t_plan_outs t_readings_count t_sh_lane t_sh_size t_sh_cells)) (va_runV (As := []) (rest := []) ⟨hx, hb, hml, hown, hts⟩ (c_Sh_hasNothing l D cI cJ cS q_t_sh3 q_t_sh3_cells (t_sh_lane 3) (t_sh_size 3) y12 h13 _) (cwV 0 hts gX8_day_X6_hasNothing rfl rfl rfl (by decide +kernel) ⟨(Nat.le_of_ble_eq_true rfl), (Nat.le_of_ble_eq_true rfl)⟩) (pre_V hK hP hD [14] rfl rfl rfl rfl) rfl rfl hl.1 rfl (lv_room (Nat.le_of_ble_eq_true rfl)) dX8_day_52 ⟨Nat.zero_le _, Nat.zero_le _⟩) hP hD hS hA [14] [0, 1, 2, 3, 4, 5, 6, 7, 8, 9, 10, 11, 12, 13, 15] [0, 1, 2, 3, 4, 5, 6, 7, 8, 9, 10, 11, 12, 13, 15, 14] rfl rfl rfl (by decide) rfl rfl (fun H locs hP hD hS => ?_)
          refine lv_if_eq (tgt := 64) hx hb dX8_day_55 (by decide) (fun c14 => ?_) (fun c14 => ?_)
          · have hM := (o_if hM).1 c14
            refine lv_iload hx hb dX8_day_64 (lv_at hl 5 rfl) ?_
            refine lv_if_ge (tgt := 75) hx hb dX8_day_66 (by decide) (fun c15 => ?_) (fun c15 => ?_)
            · have hM := (o_if hM).1 c15
              refine lv_aload hx hb dX8_day_75 (lv_at hl 0 rfl) ?_
              refine lv_iload_n hx hb dX8_day_77 rfl (lv_at hl 4 rfl) ?_
              refine lv_iload hx hb dX8_day_78 (lv_at hl 5 rfl) ?_
              obtain ⟨y16, h17, hM⟩ := o_bd hM
              refine af_i (ws2 := (w_Tq_day cI cJ cS q_t q_t_plan q_t_counter q_t_choices q_t_ringers q_t_readings q_t_sheets q_t_plan_kinds q_t_plan_comes q_t_plan_wants q_t_plan_outs q_t_readings_persons q_t_readings_minutes q_t_sh0 q_t_sh0_cells q_t_sh1 q_t_sh1_cells q_t_sh2 q_t_sh2_cells q_t_sh3 q_t_sh3_cells t_traced t_lastFault t_plan_law t_plan_count t_plan_bells t_plan_kinds t_plan_comes t_plan_wants t_plan_outs t_readings_count t_sh_lane t_sh_size t_sh_cells)) (va_runV (As := [.int p_i, .int p_n]) (rest := []) ⟨hx, hb, hml, hown, hts⟩ (c_Sh_holds l D cI cJ cS q_t_sh3 q_t_sh3_cells (t_sh_lane 3) (t_sh_size 3) p_i p_n y16 h17 _) (cwV 2 hts gX8_day_X6_holds rfl rfl rfl (by decide +kernel) ⟨(Nat.le_of_ble_eq_true rfl), (Nat.le_of_ble_eq_true rfl)⟩) (pre_V hK hP hD [14] rfl rfl rfl rfl) rfl rfl hl.1 rfl (lv_room (Nat.le_of_ble_eq_true rfl)) dX8_day_80 ⟨Nat.zero_le _, Nat.zero_le _⟩) hP hD hS hA [14] [0, 1, 2, 3, 4, 5, 6, 7, 8, 9, 10, 11, 12, 13, 15] [0, 1, 2, 3, 4, 5, 6, 7, 8, 9, 10, 11, 12, 13, 15, 14] rfl rfl rfl (by decide) rfl rfl (fun H locs hP hD hS => ?_)
              refine lv_if_ne (tgt := 92) hx hb dX8_day_83 (by decide) (fun c18 => ?_) (fun c18 => ?_)
              · have hM := (o_if hM).2 c18
                refine lv_aload hx hb dX8_day_92 (lv_at hl 0 rfl) ?_
                refine lv_iload_n hx hb dX8_day_94 rfl (lv_at hl 4 rfl) ?_
                refine lv_iload hx hb dX8_day_95 (lv_at hl 5 rfl) ?_
                obtain ⟨y19, h20, hM⟩ := o_bd hM
                refine af_i (ws2 := (w_Tq_day cI cJ cS q_t q_t_plan q_t_counter q_t_choices q_t_ringers q_t_readings q_t_sheets q_t_plan_kinds q_t_plan_comes q_t_plan_wants q_t_plan_outs q_t_readings_persons q_t_readings_minutes q_t_sh0 q_t_sh0_cells q_t_sh1 q_t_sh1_cells q_t_sh2 q_t_sh2_cells q_t_sh3 q_t_sh3_cells t_traced t_lastFault t_plan_law t_plan_count t_plan_bells t_plan_kinds t_plan_comes t_plan_wants t_plan_outs t_readings_count t_sh_lane t_sh_size t_sh_cells)) (va_runS (As := [.ref q_t_sh3, .int p_i, .int p_n]) (rest := []) ⟨hx, hb, hml, hown, hts⟩ (c_Te_firstFault l D cI cJ cS q_t_sh3 q_t_sh3_cells (t_sh_lane 3) (t_sh_size 3) (t_sh_cells 3) p_i p_n y19 h20 _) (va_cwS 3 hts gX8_day_X7_firstFault rfl rfl rfl (by decide +kernel) ⟨(Nat.le_of_ble_eq_true rfl), (Nat.le_of_ble_eq_true rfl)⟩) (pre_S hK hP hD [14, 15] rfl rfl) rfl rfl hl.1 rfl (lv_room (Nat.le_of_ble_eq_true rfl)) dX8_day_97 ⟨Nat.zero_le _, Nat.zero_le _⟩) hP hD hS hA [14, 15] [0, 1, 2, 3, 4, 5, 6, 7, 8, 9, 10, 11, 12, 13] [0, 1, 2, 3, 4, 5, 6, 7, 8, 9, 10, 11, 12, 13, 14, 15] rfl rfl rfl (by decide) rfl rfl (fun H locs hP hD hS => ?_)
                refine lv_istore (lv' := [(6, .int y19), (5, .ref q_t_sh3), (0, .ref q_t), (1, .int p_sheet), (2, .int p_lane), (3, .int p_i), (4, .int p_n)]) hx hb dX8_day_100 hl (Nat.le_of_ble_eq_true rfl) rfl (fun ls hl => ?_)
                refine lv_iload hx hb dX8_day_102 (lv_at hl 0 rfl) ?_
                refine lv_bipush (v := (-9)) hx hb dX8_day_104 (by decide) ?_
                refine lv_icmp_eq (tgt := 119) hx hb dX8_day_106 (by decide) (fun c21 => ?_) (fun c21 => ?_)
                · have hM := (o_if hM).1 c21
                  refine lv_aload_n hx hb dX8_day_119 rfl (lv_at hl 2 rfl) ?_
                  refine va_get (ci := 7) (v := .ref q_t_plan) (C := RX8) (T := TX8) (N := 8) hx hb hts iX8 hown hK.1 hP 0 rfl rfl 0 (Nat.le_of_ble_eq_true rfl) k1 (fun _ h9 => h9) rfl dX8_day_120 ?_
                  refine lv_aload hx hb dX8_day_123 (lv_at hl 1 rfl) ?_
                  refine lv_iload_n hx hb dX8_day_125 rfl (lv_at hl 5 rfl) ?_
                  refine lv_iload hx hb dX8_day_126 (lv_at hl 6 rfl) ?_
                  obtain ⟨y22, h23, hM⟩ := o_bd hM
                  refine af_v (ws2 := (w_Tq_day cI cJ cS q_t q_t_plan q_t_counter q_t_choices q_t_ringers q_t_readings q_t_sheets q_t_plan_kinds q_t_plan_comes q_t_plan_wants q_t_plan_outs q_t_readings_persons q_t_readings_minutes q_t_sh0 q_t_sh0_cells q_t_sh1 q_t_sh1_cells q_t_sh2 q_t_sh2_cells q_t_sh3 q_t_sh3_cells t_traced t_lastFault y22.1 y22.2.1 y22.2.2.1 y22.2.2.2.1 y22.2.2.2.2.1 y22.2.2.2.2.2.1 y22.2.2.2.2.2.2 t_readings_count t_sh_lane t_sh_size t_sh_cells)) (va_runS (As := [.ref q_t_plan, .ref q_t_sh3, .int p_i, .int p_n]) (rest := []) ⟨hx, hb, hml, hown, hts⟩ (c_Te_readInto l D cI cJ cS q_t_plan q_t_sh3 q_t_plan_kinds q_t_plan_comes q_t_plan_wants q_t_plan_outs q_t_sh3_cells t_plan_law t_plan_count t_plan_bells t_plan_kinds t_plan_comes t_plan_wants t_plan_outs (t_sh_lane 3) (t_sh_size 3) (t_sh_cells 3) p_i p_n y22 h23 _) (va_cwS 4 hts gX8_day_X7_readInto rfl rfl rfl (by decide +kernel) ⟨(Nat.le_of_ble_eq_true rfl), (Nat.le_of_ble_eq_true rfl)⟩) (pre_S hK hP hD [1, 2, 3, 4, 5, 14, 15] rfl rfl) rfl rfl hl.1 rfl (lv_room (Nat.le_of_ble_eq_true rfl)) dX8_day_128 ⟨Nat.zero_le _, Nat.zero_le _⟩) hP hD hS hA [1, 2, 3, 4, 5, 14, 15] [0, 6, 7, 8, 9, 10, 11, 12, 13] [0, 9, 10, 11, 12, 13, 1, 2, 3, 4, 5, 6, 7, 8, 14, 15] rfl rfl rfl (by decide) rfl rfl (fun H locs hP hD hS => ?_)
                  refine lv_aload_n hx hb dX8_day_131 rfl (lv_at hl 2 rfl) ?_
                  refine va_get (ci := 7) (v := .ref q_t_readings) (C := RX8) (T := TX8) (N := 8) hx hb hts iX8 hown hK.1 hP 0 rfl rfl 4 (Nat.le_of_ble_eq_true rfl) k2 (fun _ h9 => h9) rfl dX8_day_132 ?_
                  refine lv_iconst (v := 0) hx hb dX8_day_135 (by decide) ?_
                  refine va_put (ci := 4) (v := .int 0) (ty := .int) (C := RX4) (T := TX4) (N := 3) hx hb hts iX4 tyX4 tyX4_ok nmX4 hown hK.1 hP hD hS 6 rfl rfl 2 (Nat.le_of_ble_eq_true rfl) k3 (fun _ h9 => h9) rfl (tyX4_ok 2 (Nat.le_of_ble_eq_true rfl)) rfl rfl (Nat.le_of_ble_eq_true rfl) dX8_day_136 (fun H locs hP hD hS => ?_)
                  have hP : va_P D vwCl (w_Tq_day cI cJ cS q_t q_t_plan q_t_counter q_t_choices q_t_ringers q_t_readings q_t_sheets q_t_plan_kinds q_t_plan_comes q_t_plan_wants q_t_plan_outs q_t_readings_persons q_t_readings_minutes q_t_sh0 q_t_sh0_cells q_t_sh1 q_t_sh1_cells q_t_sh2 q_t_sh2_cells q_t_sh3 q_t_sh3_cells t_traced t_lastFault y22.1 y22.2.1 y22.2.2.1 y22.2.2.2.1 y22.2.2.2.2.1 y22.2.2.2.2.2.1 y22.2.2.2.2.2.2 0 t_sh_lane t_sh_size t_sh_cells) H := hP
                  have hD : va_D A (w_Tq_day cI cJ cS q_t q_t_plan q_t_counter q_t_choices q_t_ringers q_t_readings q_t_sheets q_t_plan_kinds q_t_plan_comes q_t_plan_wants q_t_plan_outs q_t_readings_persons q_t_readings_minutes q_t_sh0 q_t_sh0_cells q_t_sh1 q_t_sh1_cells q_t_sh2 q_t_sh2_cells q_t_sh3 q_t_sh3_cells t_traced t_lastFault y22.1 y22.2.1 y22.2.2.1 y22.2.2.2.1 y22.2.2.2.2.1 y22.2.2.2.2.2.1 y22.2.2.2.2.2.2 0 t_sh_lane t_sh_size t_sh_cells) := hD
                  refine lv_aload_n hx hb dX8_day_139 rfl (lv_at hl 2 rfl) ?_
                  refine lv_aload_n hx hb dX8_day_140 rfl (lv_at hl 2 rfl) ?_
                  refine va_get (ci := 7) (v := .ref q_t_plan) (C := RX8) (T := TX8) (N := 8) hx hb hts iX8 hown hK.1 hP 0 rfl rfl 0 (Nat.le_of_ble_eq_true rfl) k1 (fun _ h9 => h9) rfl dX8_day_141 ?_
                  refine va_get (ci := 3) (v := .int y22.2.1) (C := RX3) (T := TX3) (N := 7) hx hb hts iX3 hown hK.1 hP 1 rfl rfl 1 (Nat.le_of_ble_eq_true rfl) k4 (fun _ h9 => h9) rfl dX8_day_144 ?_
                  obtain ⟨y24, h25, hM⟩ := o_bd hM
                  refine af_i (ws2 := (w_Tq_day cI cJ cS q_t q_t_plan q_t_counter q_t_choices q_t_ringers q_t_readings q_t_sheets q_t_plan_kinds q_t_plan_comes q_t_plan_wants q_t_plan_outs q_t_readings_persons q_t_readings_minutes q_t_sh0 q_t_sh0_cells q_t_sh1 q_t_sh1_cells q_t_sh2 q_t_sh2_cells q_t_sh3 q_t_sh3_cells t_traced y24.2 y22.1 y22.2.1 y22.2.2.1 y22.2.2.2.1 y22.2.2.2.2.1 y22.2.2.2.2.2.1 y22.2.2.2.2.2.2 0 t_sh_lane t_sh_size t_sh_cells)) (va_runV (As := [.int y22.2.1]) (rest := []) ⟨hx, hb, hml, hown, hts⟩ (c_Tq_faultless l D cI cJ cS q_t q_t_plan q_t_counter q_t_choices q_t_ringers q_t_readings q_t_sheets t_traced t_lastFault y22.2.1 y24 h25 _) (cwV 1 hts gX8_day_X8_faultless rfl rfl rfl (by decide +kernel) ⟨(Nat.le_of_ble_eq_true rfl), (Nat.le_of_ble_eq_true rfl)⟩) (pre_V hK hP hD [0] rfl rfl rfl rfl) rfl rfl hl.1 rfl (lv_room (Nat.le_of_ble_eq_true rfl)) dX8_day_147 ⟨Nat.zero_le _, Nat.zero_le _⟩) hP hD hS hA [0] [1, 2, 3, 4, 5, 6, 7, 8, 9, 10, 11, 12, 13, 14, 15] [15, 0, 1, 2, 3, 4, 5, 6, 7, 8, 9, 10, 11, 12, 13, 14] rfl rfl rfl (by decide) rfl rfl (fun H locs hP hD hS => ?_)
                  have hM := (Option.some.inj hM)
                  subst hM
                  exact rt_i hx hb hr hlocks hP hD hS dX8_day_150
                · have hM := (o_if hM).2 c21
                  refine lv_aload_n hx hb dX8_day_109 rfl (lv_at hl 2 rfl) ?_
                  refine lv_bipush (v := (-100)) hx hb dX8_day_110 (by decide) ?_
                  refine lv_iload hx hb dX8_day_112 (lv_at hl 0 rfl) ?_
                  refine lv_isub hx hb dX8_day_114 ?_
                  obtain ⟨y26, h27, hM⟩ := o_bd hM
                  refine af_i (ws2 := (w_Tq_day cI cJ cS q_t q_t_plan q_t_counter q_t_choices q_t_ringers q_t_readings q_t_sheets q_t_plan_kinds q_t_plan_comes q_t_plan_wants q_t_plan_outs q_t_readings_persons q_t_readings_minutes q_t_sh0 q_t_sh0_cells q_t_sh1 q_t_sh1_cells q_t_sh2 q_t_sh2_cells q_t_sh3 q_t_sh3_cells t_traced y26.2 t_plan_law t_plan_count t_plan_bells t_plan_kinds t_plan_comes t_plan_wants t_plan_outs t_readings_count t_sh_lane t_sh_size t_sh_cells)) (va_runV (As := [.int ((-100) - y19)]) (rest := []) ⟨hx, hb, hml, hown, hts⟩ (c_Tq_faultless l D cI cJ cS q_t q_t_plan q_t_counter q_t_choices q_t_ringers q_t_readings q_t_sheets t_traced t_lastFault ((-100) - y19) y26 h27 _) (cwV 1 hts gX8_day_X8_faultless rfl rfl rfl (by decide +kernel) ⟨(Nat.le_of_ble_eq_true rfl), (Nat.le_of_ble_eq_true rfl)⟩) (pre_V hK hP hD [0] rfl rfl rfl rfl) rfl rfl hl.1 rfl (lv_room (Nat.le_of_ble_eq_true rfl)) dX8_day_115 ⟨Nat.zero_le _, Nat.zero_le _⟩) hP hD hS hA [0] [1, 2, 3, 4, 5, 6, 7, 8, 9, 10, 11, 12, 13, 14, 15] [15, 0, 1, 2, 3, 4, 5, 6, 7, 8, 9, 10, 11, 12, 13, 14] rfl rfl rfl (by decide) rfl rfl (fun H locs hP hD hS => ?_)
                  have hM := (Option.some.inj hM)
                  subst hM
                  exact rt_i hx hb hr hlocks hP hD hS dX8_day_118
              · have hM := (o_if hM).1 c18
                refine lv_aload_n hx hb dX8_day_86 rfl (lv_at hl 1 rfl) ?_
                refine lv_iconst (v := 3) hx hb dX8_day_87 (by decide) ?_
                obtain ⟨y28, h29, hM⟩ := o_bd hM
                refine af_i (ws2 := (w_Tq_day cI cJ cS q_t q_t_plan q_t_counter q_t_choices q_t_ringers q_t_readings q_t_sheets q_t_plan_kinds q_t_plan_comes q_t_plan_wants q_t_plan_outs q_t_readings_persons q_t_readings_minutes q_t_sh0 q_t_sh0_cells q_t_sh1 q_t_sh1_cells q_t_sh2 q_t_sh2_cells q_t_sh3 q_t_sh3_cells t_traced y28.2 t_plan_law t_plan_count t_plan_bells t_plan_kinds t_plan_comes t_plan_wants t_plan_outs t_readings_count t_sh_lane t_sh_size t_sh_cells)) (va_runV (As := [.int 3]) (rest := []) ⟨hx, hb, hml, hown, hts⟩ (c_Tq_faulted l D cI cJ cS q_t q_t_plan q_t_counter q_t_choices q_t_ringers q_t_readings q_t_sheets t_traced t_lastFault 3 y28 h29 _) (cwV 1 hts gX8_day_X8_faulted rfl rfl rfl (by decide +kernel) ⟨(Nat.le_of_ble_eq_true rfl), (Nat.le_of_ble_eq_true rfl)⟩) (pre_V hK hP hD [0] rfl rfl rfl rfl) rfl rfl hl.1 rfl (lv_room (Nat.le_of_ble_eq_true rfl)) dX8_day_88 ⟨Nat.zero_le _, Nat.zero_le _⟩) hP hD hS hA [0] [1, 2, 3, 4, 5, 6, 7, 8, 9, 10, 11, 12, 13, 14, 15] [15, 0, 1, 2, 3, 4, 5, 6, 7, 8, 9, 10, 11, 12, 13, 14] rfl rfl rfl (by decide) rfl rfl (fun H locs hP hD hS => ?_)
                have hM := (Option.some.inj hM)
                subst hM
                exact rt_i hx hb hr hlocks hP hD hS dX8_day_91
            · have hM := (o_if hM).2 c15
              refine lv_aload_n hx hb dX8_day_69 rfl (lv_at hl 1 rfl) ?_
              refine lv_iconst (v := 4) hx hb dX8_day_70 (by decide) ?_
              obtain ⟨y30, h31, hM⟩ := o_bd hM
              refine af_i (ws2 := (w_Tq_day cI cJ cS q_t q_t_plan q_t_counter q_t_choices q_t_ringers q_t_readings q_t_sheets q_t_plan_kinds q_t_plan_comes q_t_plan_wants q_t_plan_outs q_t_readings_persons q_t_readings_minutes q_t_sh0 q_t_sh0_cells q_t_sh1 q_t_sh1_cells q_t_sh2 q_t_sh2_cells q_t_sh3 q_t_sh3_cells t_traced y30.2 t_plan_law t_plan_count t_plan_bells t_plan_kinds t_plan_comes t_plan_wants t_plan_outs t_readings_count t_sh_lane t_sh_size t_sh_cells)) (va_runV (As := [.int 4]) (rest := []) ⟨hx, hb, hml, hown, hts⟩ (c_Tq_faulted l D cI cJ cS q_t q_t_plan q_t_counter q_t_choices q_t_ringers q_t_readings q_t_sheets t_traced t_lastFault 4 y30 h31 _) (cwV 1 hts gX8_day_X8_faulted rfl rfl rfl (by decide +kernel) ⟨(Nat.le_of_ble_eq_true rfl), (Nat.le_of_ble_eq_true rfl)⟩) (pre_V hK hP hD [0] rfl rfl rfl rfl) rfl rfl hl.1 rfl (lv_room (Nat.le_of_ble_eq_true rfl)) dX8_day_71 ⟨Nat.zero_le _, Nat.zero_le _⟩) hP hD hS hA [0] [1, 2, 3, 4, 5, 6, 7, 8, 9, 10, 11, 12, 13, 14, 15] [15, 0, 1, 2, 3, 4, 5, 6, 7, 8, 9, 10, 11, 12, 13, 14] rfl rfl rfl (by decide) rfl rfl (fun H locs hP hD hS => ?_)
              have hM := (Option.some.inj hM)
              subst hM
              exact rt_i hx hb hr hlocks hP hD hS dX8_day_74
          · have hM := (o_if hM).2 c14
            refine lv_aload_n hx hb dX8_day_58 rfl (lv_at hl 1 rfl) ?_
            refine lv_iconst (v := 1) hx hb dX8_day_59 (by decide) ?_
            obtain ⟨y32, h33, hM⟩ := o_bd hM
            refine af_i (ws2 := (w_Tq_day cI cJ cS q_t q_t_plan q_t_counter q_t_choices q_t_ringers q_t_readings q_t_sheets q_t_plan_kinds q_t_plan_comes q_t_plan_wants q_t_plan_outs q_t_readings_persons q_t_readings_minutes q_t_sh0 q_t_sh0_cells q_t_sh1 q_t_sh1_cells q_t_sh2 q_t_sh2_cells q_t_sh3 q_t_sh3_cells t_traced y32.2 t_plan_law t_plan_count t_plan_bells t_plan_kinds t_plan_comes t_plan_wants t_plan_outs t_readings_count t_sh_lane t_sh_size t_sh_cells)) (va_runV (As := [.int 1]) (rest := []) ⟨hx, hb, hml, hown, hts⟩ (c_Tq_faulted l D cI cJ cS q_t q_t_plan q_t_counter q_t_choices q_t_ringers q_t_readings q_t_sheets t_traced t_lastFault 1 y32 h33 _) (cwV 1 hts gX8_day_X8_faulted rfl rfl rfl (by decide +kernel) ⟨(Nat.le_of_ble_eq_true rfl), (Nat.le_of_ble_eq_true rfl)⟩) (pre_V hK hP hD [0] rfl rfl rfl rfl) rfl rfl hl.1 rfl (lv_room (Nat.le_of_ble_eq_true rfl)) dX8_day_60 ⟨Nat.zero_le _, Nat.zero_le _⟩) hP hD hS hA [0] [1, 2, 3, 4, 5, 6, 7, 8, 9, 10, 11, 12, 13, 14, 15] [15, 0, 1, 2, 3, 4, 5, 6, 7, 8, 9, 10, 11, 12, 13, 14] rfl rfl rfl (by decide) rfl rfl (fun H locs hP hD hS => ?_)
            have hM := (Option.some.inj hM)
            subst hM
            exact rt_i hx hb hr hlocks hP hD hS dX8_day_63
        · have hM := (o_if hM).2 c11
          refine lv_aload_n hx hb dX8_day_44 rfl (lv_at hl 1 rfl) ?_
          refine lv_iconst (v := 2) hx hb dX8_day_45 (by decide) ?_
          obtain ⟨y34, h35, hM⟩ := o_bd hM
          refine af_i (ws2 := (w_Tq_day cI cJ cS q_t q_t_plan q_t_counter q_t_choices q_t_ringers q_t_readings q_t_sheets q_t_plan_kinds q_t_plan_comes q_t_plan_wants q_t_plan_outs q_t_readings_persons q_t_readings_minutes q_t_sh0 q_t_sh0_cells q_t_sh1 q_t_sh1_cells q_t_sh2 q_t_sh2_cells q_t_sh3 q_t_sh3_cells t_traced y34.2 t_plan_law t_plan_count t_plan_bells t_plan_kinds t_plan_comes t_plan_wants t_plan_outs t_readings_count t_sh_lane t_sh_size t_sh_cells)) (va_runV (As := [.int 2]) (rest := []) ⟨hx, hb, hml, hown, hts⟩ (c_Tq_faulted l D cI cJ cS q_t q_t_plan q_t_counter q_t_choices q_t_ringers q_t_readings q_t_sheets t_traced t_lastFault 2 y34 h35 _) (cwV 1 hts gX8_day_X8_faulted rfl rfl rfl (by decide +kernel) ⟨(Nat.le_of_ble_eq_true rfl), (Nat.le_of_ble_eq_true rfl)⟩) (pre_V hK hP hD [0] rfl rfl rfl rfl) rfl rfl hl.1 rfl (lv_room (Nat.le_of_ble_eq_true rfl)) dX8_day_46 ⟨Nat.zero_le _, Nat.zero_le _⟩) hP hD hS hA [0] [1, 2, 3, 4, 5, 6, 7, 8, 9, 10, 11, 12, 13, 14, 15] [15, 0, 1, 2, 3, 4, 5, 6, 7, 8, 9, 10, 11, 12, 13, 14] rfl rfl rfl (by decide) rfl rfl (fun H locs hP hD hS => ?_)
          have hM := (Option.some.inj hM)
          subst hM
          exact rt_i hx hb hr hlocks hP hD hS dX8_day_49
    · have hM := (o_if hM).1 c6
      refine lv_aload_n hx hb dX8_day_20 rfl (lv_at hl 0 rfl) ?_
      refine lv_bipush (v := (-2)) hx hb dX8_day_21 (by decide) ?_
      obtain ⟨y36, h37, hM⟩ := o_bd hM
      refine af_i (ws2 := (w_Tq_day cI cJ cS q_t q_t_plan q_t_counter q_t_choices q_t_ringers q_t_readings q_t_sheets q_t_plan_kinds q_t_plan_comes q_t_plan_wants q_t_plan_outs q_t_readings_persons q_t_readings_minutes q_t_sh0 q_t_sh0_cells q_t_sh1 q_t_sh1_cells q_t_sh2 q_t_sh2_cells q_t_sh3 q_t_sh3_cells t_traced y36.2 t_plan_law t_plan_count t_plan_bells t_plan_kinds t_plan_comes t_plan_wants t_plan_outs t_readings_count t_sh_lane t_sh_size t_sh_cells)) (va_runV (As := [.int (-2)]) (rest := []) ⟨hx, hb, hml, hown, hts⟩ (c_Tq_faultless l D cI cJ cS q_t q_t_plan q_t_counter q_t_choices q_t_ringers q_t_readings q_t_sheets t_traced t_lastFault (-2) y36 h37 _) (cwV 1 hts gX8_day_X8_faultless rfl rfl rfl (by decide +kernel) ⟨(Nat.le_of_ble_eq_true rfl), (Nat.le_of_ble_eq_true rfl)⟩) (pre_V hK hP hD [0] rfl rfl rfl rfl) rfl rfl hl.1 rfl (lv_room (Nat.le_of_ble_eq_true rfl)) dX8_day_23 ⟨Nat.zero_le _, Nat.zero_le _⟩) hP hD hS hA [0] [1, 2, 3, 4, 5, 6, 7, 8, 9, 10, 11, 12, 13, 14, 15] [15, 0, 1, 2, 3, 4, 5, 6, 7, 8, 9, 10, 11, 12, 13, 14] rfl rfl rfl (by decide) rfl rfl (fun H locs hP hD hS => ?_)
      have hM := (Option.some.inj hM)
      subst hM
      exact rt_i hx hb hr hlocks hP hD hS dX8_day_26
  · have hM := (o_if hM).1 c3
    refine lv_aload_n hx hb dX8_day_7 rfl (lv_at hl 0 rfl) ?_
    refine lv_iconst (v := (-1)) hx hb dX8_day_8 (by decide) ?_
    obtain ⟨y38, h39, hM⟩ := o_bd hM
    refine af_i (ws2 := (w_Tq_day cI cJ cS q_t q_t_plan q_t_counter q_t_choices q_t_ringers q_t_readings q_t_sheets q_t_plan_kinds q_t_plan_comes q_t_plan_wants q_t_plan_outs q_t_readings_persons q_t_readings_minutes q_t_sh0 q_t_sh0_cells q_t_sh1 q_t_sh1_cells q_t_sh2 q_t_sh2_cells q_t_sh3 q_t_sh3_cells t_traced y38.2 t_plan_law t_plan_count t_plan_bells t_plan_kinds t_plan_comes t_plan_wants t_plan_outs t_readings_count t_sh_lane t_sh_size t_sh_cells)) (va_runV (As := [.int (-1)]) (rest := []) ⟨hx, hb, hml, hown, hts⟩ (c_Tq_faultless l D cI cJ cS q_t q_t_plan q_t_counter q_t_choices q_t_ringers q_t_readings q_t_sheets t_traced t_lastFault (-1) y38 h39 _) (cwV 1 hts gX8_day_X8_faultless rfl rfl rfl (by decide +kernel) ⟨(Nat.le_of_ble_eq_true rfl), (Nat.le_of_ble_eq_true rfl)⟩) (pre_V hK hP hD [0] rfl rfl rfl rfl) rfl rfl hl.1 rfl (lv_room (Nat.le_of_ble_eq_true rfl)) dX8_day_9 ⟨Nat.zero_le _, Nat.zero_le _⟩) hP hD hS hA [0] [1, 2, 3, 4, 5, 6, 7, 8, 9, 10, 11, 12, 13, 14, 15] [15, 0, 1, 2, 3, 4, 5, 6, 7, 8, 9, 10, 11, 12, 13, 14] rfl rfl rfl (by decide) rfl rfl (fun H locs hP hD hS => ?_)
    have hM := (Option.some.inj hM)
    subst hM
    exact rt_i hx hb hr hlocks hP hD hS dX8_day_12
/-! ===== TurnQueue.sheet ===== -/
abbrev w_Tq_sheet (cI cJ cS : ClassId) (q_t : Nat) (q_t_plan : Nat) (q_t_counter : Nat) (q_t_choices : Nat) (q_t_ringers : Nat) (q_t_readings : Nat) (q_t_sheets : Nat) (q_t_sh0 : Nat) (q_t_sh0_cells : Nat) (q_t_sh1 : Nat) (q_t_sh1_cells : Nat) (q_t_sh2 : Nat) (q_t_sh2_cells : Nat) (q_t_sh3 : Nat) (q_t_sh3_cells : Nat) (t_traced : Int32) (t_lastFault : Int32) (t_sh_lane : Nat → Int32) (t_sh_size : Nat → Int32) (t_sh_cells : Nat → Nat → Int32) : va_W := [(q_t, .inr (7, [.ref q_t_plan, .ref q_t_counter, .ref q_t_choices, .ref q_t_ringers, .ref q_t_readings, .ref q_t_sheets, .int t_traced, .int t_lastFault])), (q_t_sheets, arS cS 4 (a4 q_t_sh0 q_t_sh1 q_t_sh2 q_t_sh3)), (q_t_sh0, .inr (6, [.ref q_t_sh0_cells, .int (t_sh_lane 0), .int (t_sh_size 0)])), (q_t_sh0_cells, ar cI 60 (t_sh_cells 0)), (q_t_sh1, .inr (6, [.ref q_t_sh1_cells, .int (t_sh_lane 1), .int (t_sh_size 1)])), (q_t_sh1_cells, ar cI 60 (t_sh_cells 1)), (q_t_sh2, .inr (6, [.ref q_t_sh2_cells, .int (t_sh_lane 2), .int (t_sh_size 2)])), (q_t_sh2_cells, ar cI 60 (t_sh_cells 2)), (q_t_sh3, .inr (6, [.ref q_t_sh3_cells, .int (t_sh_lane 3), .int (t_sh_size 3)])), (q_t_sh3_cells, ar cI 60 (t_sh_cells 3))]
abbrev rm_Tq_sheet : Room := { frames := 1, cells := 0, slots := 0, locals := 23 }
noncomputable def Tq_sheet (p_k : Int32) (p_lane : Int32) (p_n : Int32) (t_lastFault : Int32) (t_sh_lane : Nat → Int32) (t_sh_size : Nat → Int32) (t_sh_cells : Nat → Nat → Int32) : Option (Int32 × Int32 × (Nat → Int32) × (Nat → Int32) × (Nat → Nat → Int32)) :=
  (Tq_isSheet p_k).bind fun y1 =>
  if y1 = 0 then
    (Tq_faultless (-1) t_lastFault).bind fun y21 =>
    some (y21.1, y21.2, t_sh_lane, t_sh_size, t_sh_cells)
  else
    (Tq_isLane p_lane).bind fun y4 =>
    if y4 = 0 then
      (Tq_faultless (-2) t_lastFault).bind fun y7 =>
      some (y7.1, y7.2, t_sh_lane, t_sh_size, t_sh_cells)
    else
      if p_n ≤ 60 then
        if 0 ≤ p_n then
          if ck p_k 4 = true then
            lt p_k.toNatClampNeg fun j12 =>
            (Sh_begin p_lane p_n (t_sh_lane j12) (t_sh_size j12) (t_sh_cells j12)).bind fun y13 =>
            (Tq_faultless 1 t_lastFault).bind fun y15 =>
            some (y15.1, y15.2, va_up t_sh_lane j12 y13.1, va_up t_sh_size j12 y13.2.1, va_up t_sh_cells j12 y13.2.2)
          else none
        else
          (Tq_faulted 4 t_lastFault).bind fun y17 =>
          some (y17.1, y17.2, t_sh_lane, t_sh_size, t_sh_cells)
      else
        (Tq_faultless (-2) t_lastFault).bind fun y19 =>
        some (y19.1, y19.2, t_sh_lane, t_sh_size, t_sh_cells)
set_option maxRecDepth 100000 in
set_option maxHeartbeats 4000000 in
theorem c_Tq_sheet (l : Launch) (D : va_G) (cI cJ cS : ClassId) (q_t q_t_plan q_t_counter q_t_choices q_t_ringers q_t_readings q_t_sheets q_t_sh0 q_t_sh0_cells q_t_sh1 q_t_sh1_cells q_t_sh2 q_t_sh2_cells q_t_sh3 q_t_sh3_cells : Nat) (t_traced : Int32) (t_lastFault : Int32) (t_sh_lane : Nat → Int32) (t_sh_size : Nat → Int32) (t_sh_cells : Nat → Nat → Int32) (p_k : Int32) (p_lane : Int32) (p_n : Int32) (o : Int32 × Int32 × (Nat → Int32) × (Nat → Int32) × (Nat → Nat → Int32)) (hM : Tq_sheet p_k p_lane p_n t_lastFault t_sh_lane t_sh_size t_sh_cells = some o) : Ci l yX8_sheet wsX8_sheet rm_Tq_sheet D cI cJ cS [.ref q_t, .int p_k, .int p_lane, .int p_n] (w_Tq_sheet cI cJ cS q_t q_t_plan q_t_counter q_t_choices q_t_ringers q_t_readings q_t_sheets q_t_sh0 q_t_sh0_cells q_t_sh1 q_t_sh1_cells q_t_sh2 q_t_sh2_cells q_t_sh3 q_t_sh3_cells t_traced t_lastFault t_sh_lane t_sh_size t_sh_cells) (w_Tq_sheet cI cJ cS q_t q_t_plan q_t_counter q_t_choices q_t_ringers q_t_readings q_t_sheets q_t_sh0 q_t_sh0_cells q_t_sh1 q_t_sh1_cells q_t_sh2 q_t_sh2_cells q_t_sh3 q_t_sh3_cells t_traced o.2.1 o.2.2.1 o.2.2.2.1 o.2.2.2.2) o.1 := by
  refine Ci.of (cc := cX8_sheet) (maxL := 4) (ret := (some .int)) (by decide) rfl (Nat.le_of_ble_eq_true rfl) ?_
  intro p e s m args below meth c A ls hE
  obtain ⟨hx, hb, hr, hml, hown, hts, hlocks, hK, hA, hP, hD, hS, hl⟩ := hE
  have hown : s.vm.findClass RX8 = some m.cls := hown
  have hl : lv_has ls 4 [(0, .ref q_t), (1, .int p_k), (2, .int p_lane), (3, .int p_n)] := hl
  have iX8 : ∀ w ∈ u_ws RX8 TX8 8, w ∈ wsX8_sheet := by decide +kernel
  have k0 := hts (.fieldLink RX8 48 "TurnQueue" "sheets" "[LTurnQueue$Sheet;") (by decide +kernel)
  unfold Tq_sheet at hM
  refine lv_iload_n hx hb dX8_sheet_0 rfl (lv_at hl 1 rfl) ?_
  obtain ⟨y1, h2, hM⟩ := o_bd hM
  refine af_i (ws2 := (w_Tq_sheet cI cJ cS q_t q_t_plan q_t_counter q_t_choices q_t_ringers q_t_readings q_t_sheets q_t_sh0 q_t_sh0_cells q_t_sh1 q_t_sh1_cells q_t_sh2 q_t_sh2_cells q_t_sh3 q_t_sh3_cells t_traced t_lastFault t_sh_lane t_sh_size t_sh_cells)) (va_runS (As := [.int p_k]) (rest := []) ⟨hx, hb, hml, hown, hts⟩ (c_Tq_isSheet l D cI cJ cS p_k y1 h2 _) (va_cwS 1 hts gX8_sheet_X8_isSheet rfl rfl rfl (by decide +kernel) ⟨(Nat.le_of_ble_eq_true rfl), (Nat.le_of_ble_eq_true rfl)⟩) (pre_S hK hP hD [] rfl rfl) rfl rfl hl.1 rfl (lv_room (Nat.le_of_ble_eq_true rfl)) dX8_sheet_1 ⟨Nat.zero_le _, Nat.zero_le _⟩) hP hD hS hA [] [0, 1, 2, 3, 4, 5, 6, 7, 8, 9] [0, 1, 2, 3, 4, 5, 6, 7, 8, 9] rfl rfl rfl (by decide) rfl rfl (fun H locs hP hD hS => ?_)
  refine lv_if_ne (tgt := 13) hx hb dX8_sheet_4 (by decide) (fun c3 => ?_) (fun c3 => ?_)
  · have hM := (o_if hM).2 c3
    refine lv_iload_n hx hb dX8_sheet_13 rfl (lv_at hl 2 rfl) ?_
    obtain ⟨y4, h5, hM⟩ := o_bd hM
    refine af_i (ws2 := (w_Tq_sheet cI cJ cS q_t q_t_plan q_t_counter q_t_choices q_t_ringers q_t_readings q_t_sheets q_t_sh0 q_t_sh0_cells q_t_sh1 q_t_sh1_cells q_t_sh2 q_t_sh2_cells q_t_sh3 q_t_sh3_cells t_traced t_lastFault t_sh_lane t_sh_size t_sh_cells)) (va_runS (As := [.int p_lane]) (rest := []) ⟨hx, hb, hml, hown, hts⟩ (c_Tq_isLane l D cI cJ cS p_lane y4 h5 _) (va_cwS 1 hts gX8_sheet_X8_isLane rfl rfl rfl (by decide +kernel) ⟨(Nat.le_of_ble_eq_true rfl), (Nat.le_of_ble_eq_true rfl)⟩) (pre_S hK hP hD [] rfl rfl) rfl rfl hl.1 rfl (lv_room (Nat.le_of_ble_eq_true rfl)) dX8_sheet_14 ⟨Nat.zero_le _, Nat.zero_le _⟩) hP hD hS hA [] [0, 1, 2, 3, 4, 5, 6, 7, 8, 9] [0, 1, 2, 3, 4, 5, 6, 7, 8, 9] rfl rfl rfl (by decide) rfl rfl (fun H locs hP hD hS => ?_)
    refine lv_if_eq (tgt := 26) hx hb dX8_sheet_17 (by decide) (fun c6 => ?_) (fun c6 => ?_)
    · have hM := (o_if hM).1 c6
      refine lv_aload_n hx hb dX8_sheet_26 rfl (lv_at hl 0 rfl) ?_
      refine lv_bipush (v := (-2)) hx hb dX8_sheet_27 (by decide) ?_
      obtain ⟨y7, h8, hM⟩ := o_bd hM
      refine af_i (ws2 := (w_Tq_sheet cI cJ cS q_t q_t_plan q_t_counter q_t_choices q_t_ringers q_t_readings q_t_sheets q_t_sh0 q_t_sh0_cells q_t_sh1 q_t_sh1_cells q_t_sh2 q_t_sh2_cells q_t_sh3 q_t_sh3_cells t_traced y7.2 t_sh_lane t_sh_size t_sh_cells)) (va_runV (As := [.int (-2)]) (rest := []) ⟨hx, hb, hml, hown, hts⟩ (c_Tq_faultless l D cI cJ cS q_t q_t_plan q_t_counter q_t_choices q_t_ringers q_t_readings q_t_sheets t_traced t_lastFault (-2) y7 h8 _) (cwV 1 hts gX8_sheet_X8_faultless rfl rfl rfl (by decide +kernel) ⟨(Nat.le_of_ble_eq_true rfl), (Nat.le_of_ble_eq_true rfl)⟩) (pre_V hK hP hD [0] rfl rfl rfl rfl) rfl rfl hl.1 rfl (lv_room (Nat.le_of_ble_eq_true rfl)) dX8_sheet_29 ⟨Nat.zero_le _, Nat.zero_le _⟩) hP hD hS hA [0] [1, 2, 3, 4, 5, 6, 7, 8, 9] [9, 0, 1, 2, 3, 4, 5, 6, 7, 8] rfl rfl rfl (by decide) rfl rfl (fun H locs hP hD hS => ?_)
      have hM := (Option.some.inj hM)
      subst hM
      exact rt_i hx hb hr hlocks hP hD hS dX8_sheet_32
    · have hM := (o_if hM).2 c6
      refine lv_iload_n hx hb dX8_sheet_20 rfl (lv_at hl 3 rfl) ?_
      refine lv_bipush (v := 60) hx hb dX8_sheet_21 (by decide) ?_
      refine lv_icmp_le (tgt := 33) hx hb dX8_sheet_23 (by decide) (fun c9 => ?_) (fun c9 => ?_)
      · have hM := (o_if hM).1 c9
        refine lv_iload_n hx hb dX8_sheet_33 rfl (lv_at hl 3 rfl) ?_
        refine lv_if_ge (tgt := 43) hx hb dX8_sheet_34 (by decide) (fun c10 => ?_) (fun c10 => ?_)
        · have hM := (o_if hM).1 c10
          refine lv_aload_n hx hb dX8_sheet_43 rfl (lv_at hl 0 rfl) ?_
          refine va_get (ci := 7) (v := .ref q_t_sheets) (C := RX8) (T := TX8) (N := 8) hx hb hts iX8 hown hK.1 hP 0 rfl rfl 5 (Nat.le_of_ble_eq_true rfl) k0 (fun _ h9 => h9) rfl dX8_sheet_44 ?_
          refine lv_iload_n hx hb dX8_sheet_47 rfl (lv_at hl 1 rfl) ?_
          obtain ⟨h11, hM⟩ := o_ck hM
          refine va_aldq hx hb hK.1 hP 1 2 rfl rfl h11 dX8_sheet_48 ?_
          obtain ⟨j12, ej12⟩ : ∃ y : Nat, y = p_k.toNatClampNeg := ⟨_, rfl⟩
          have hM := o_lt hM j12 ej12
          have hj12 : j12 < 4 := by rw [ej12]; exact ck_lt h11
          rw [← ej12]
          rcases (show j12 = 0 ∨ j12 = 1 ∨ j12 = 2 ∨ j12 = 3 by omega) with rfl | rfl | rfl | rfl
          · refine W.eq (g2 := F0 m 49 ls [.ref q_t_sh0]) rfl ?_
            refine lv_iload_n hx hb dX8_sheet_49 rfl (lv_at hl 2 rfl) ?_
            refine lv_iload_n hx hb dX8_sheet_50 rfl (lv_at hl 3 rfl) ?_
            obtain ⟨y13, h14, hM⟩ := o_bd hM
            refine af_v (ws2 := (w_Tq_sheet cI cJ cS q_t q_t_plan q_t_counter q_t_choices q_t_ringers q_t_readings q_t_sheets q_t_sh0 q_t_sh0_cells q_t_sh1 q_t_sh1_cells q_t_sh2 q_t_sh2_cells q_t_sh3 q_t_sh3_cells t_traced t_lastFault (va_up t_sh_lane 0 y13.1) (va_up t_sh_size 0 y13.2.1) (va_up t_sh_cells 0 y13.2.2))) (va_runV (As := [.int p_lane, .int p_n]) (rest := []) ⟨hx, hb, hml, hown, hts⟩ (c_Sh_begin l D cI cJ cS q_t_sh0 q_t_sh0_cells (t_sh_lane 0) (t_sh_size 0) (t_sh_cells 0) p_lane p_n y13 h14 _) (cwV 2 hts gX8_sheet_X6_begin rfl rfl rfl (by decide +kernel) ⟨(Nat.le_of_ble_eq_true rfl), (Nat.le_of_ble_eq_true rfl)⟩) (pre_V hK hP hD [2, 3] rfl rfl rfl rfl) rfl rfl hl.1 rfl (lv_room (Nat.le_of_ble_eq_true rfl)) dX8_sheet_51 ⟨Nat.zero_le _, Nat.zero_le _⟩) hP hD hS hA [2, 3] [0, 1, 4, 5, 6, 7, 8, 9] [0, 1, 8, 9, 2, 3, 4, 5, 6, 7] rfl rfl rfl (by decide) rfl rfl (fun H locs hP hD hS => ?_)
            refine lv_aload_n hx hb dX8_sheet_54 rfl (lv_at hl 0 rfl) ?_
            refine lv_iconst (v := 1) hx hb dX8_sheet_55 (by decide) ?_
            obtain ⟨y15, h16, hM⟩ := o_bd hM
            refine af_i (ws2 := (w_Tq_sheet cI cJ cS q_t q_t_plan q_t_counter q_t_choices q_t_ringers q_t_readings q_t_sheets q_t_sh0 q_t_sh0_cells q_t_sh1 q_t_sh1_cells q_t_sh2 q_t_sh2_cells q_t_sh3 q_t_sh3_cells t_traced y15.2 (va_up t_sh_lane 0 y13.1) (va_up t_sh_size 0 y13.2.1) (va_up t_sh_cells 0 y13.2.2))) (va_runV (As := [.int 1]) (rest := []) ⟨hx, hb, hml, hown, hts⟩ (c_Tq_faultless l D cI cJ cS q_t q_t_plan q_t_counter q_t_choices q_t_ringers q_t_readings q_t_sheets t_traced t_lastFault 1 y15 h16 _) (cwV 1 hts gX8_sheet_X8_faultless rfl rfl rfl (by decide +kernel) ⟨(Nat.le_of_ble_eq_true rfl), (Nat.le_of_ble_eq_true rfl)⟩) (pre_V hK hP hD [0] rfl rfl rfl rfl) rfl rfl hl.1 rfl (lv_room (Nat.le_of_ble_eq_true rfl)) dX8_sheet_56 ⟨Nat.zero_le _, Nat.zero_le _⟩) hP hD hS hA [0] [1, 2, 3, 4, 5, 6, 7, 8, 9] [9, 0, 1, 2, 3, 4, 5, 6, 7, 8] rfl rfl rfl (by decide) rfl rfl (fun H locs hP hD hS => ?_)
            have hM := (Option.some.inj hM)
            subst hM
            exact rt_i hx hb hr hlocks hP hD hS dX8_sheet_59
          · refine W.eq (g2 := F0 m 49 ls [.ref q_t_sh1]) rfl ?_
            refine lv_iload_n hx hb dX8_sheet_49 rfl (lv_at hl 2 rfl) ?_
            refine lv_iload_n hx hb dX8_sheet_50 rfl (lv_at hl 3 rfl) ?_
            obtain ⟨y13, h14, hM⟩ := o_bd hM
            refine af_v (ws2 := (w_Tq_sheet cI cJ cS q_t q_t_plan q_t_counter q_t_choices q_t_ringers q_t_readings q_t_sheets q_t_sh0 q_t_sh0_cells q_t_sh1 q_t_sh1_cells q_t_sh2 q_t_sh2_cells q_t_sh3 q_t_sh3_cells t_traced t_lastFault (va_up t_sh_lane 1 y13.1) (va_up t_sh_size 1 y13.2.1) (va_up t_sh_cells 1 y13.2.2))) (va_runV (As := [.int p_lane, .int p_n]) (rest := []) ⟨hx, hb, hml, hown, hts⟩ (c_Sh_begin l D cI cJ cS q_t_sh1 q_t_sh1_cells (t_sh_lane 1) (t_sh_size 1) (t_sh_cells 1) p_lane p_n y13 h14 _) (cwV 2 hts gX8_sheet_X6_begin rfl rfl rfl (by decide +kernel) ⟨(Nat.le_of_ble_eq_true rfl), (Nat.le_of_ble_eq_true rfl)⟩) (pre_V hK hP hD [4, 5] rfl rfl rfl rfl) rfl rfl hl.1 rfl (lv_room (Nat.le_of_ble_eq_true rfl)) dX8_sheet_51 ⟨Nat.zero_le _, Nat.zero_le _⟩) hP hD hS hA [4, 5] [0, 1, 2, 3, 6, 7, 8, 9] [0, 1, 2, 3, 8, 9, 4, 5, 6, 7] rfl rfl rfl (by decide) rfl rfl (fun H locs hP hD hS => ?_)
            refine lv_aload_n hx hb dX8_sheet_54 rfl (lv_at hl 0 rfl) ?_
            refine lv_iconst (v := 1) hx hb dX8_sheet_55 (by decide) ?_
            obtain ⟨y15, h16, hM⟩ := o_bd hM
            refine af_i (ws2 := (w_Tq_sheet cI cJ cS q_t q_t_plan q_t_counter q_t_choices q_t_ringers q_t_readings q_t_sheets q_t_sh0 q_t_sh0_cells q_t_sh1 q_t_sh1_cells q_t_sh2 q_t_sh2_cells q_t_sh3 q_t_sh3_cells t_traced y15.2 (va_up t_sh_lane 1 y13.1) (va_up t_sh_size 1 y13.2.1) (va_up t_sh_cells 1 y13.2.2))) (va_runV (As := [.int 1]) (rest := []) ⟨hx, hb, hml, hown, hts⟩ (c_Tq_faultless l D cI cJ cS q_t q_t_plan q_t_counter q_t_choices q_t_ringers q_t_readings q_t_sheets t_traced t_lastFault 1 y15 h16 _) (cwV 1 hts gX8_sheet_X8_faultless rfl rfl rfl (by decide +kernel) ⟨(Nat.le_of_ble_eq_true rfl), (Nat.le_of_ble_eq_true rfl)⟩) (pre_V hK hP hD [0] rfl rfl rfl rfl) rfl rfl hl.1 rfl (lv_room (Nat.le_of_ble_eq_true rfl)) dX8_sheet_56 ⟨Nat.zero_le _, Nat.zero_le _⟩) hP hD hS hA [0] [1, 2, 3, 4, 5, 6, 7, 8, 9] [9, 0, 1, 2, 3, 4, 5, 6, 7, 8] rfl rfl rfl (by decide) rfl rfl (fun H locs hP hD hS => ?_)
            have hM := (Option.some.inj hM)
            subst hM
            exact rt_i hx hb hr hlocks hP hD hS dX8_sheet_59
          · refine W.eq (g2 := F0 m 49 ls [.ref q_t_sh2]) rfl ?_
            refine lv_iload_n hx hb dX8_sheet_49 rfl (lv_at hl 2 rfl) ?_
            refine lv_iload_n hx hb dX8_sheet_50 rfl (lv_at hl 3 rfl) ?_
            obtain ⟨y13, h14, hM⟩ := o_bd hM
            refine af_v (ws2 := (w_Tq_sheet cI cJ cS q_t q_t_plan q_t_counter q_t_choices q_t_ringers q_t_readings q_t_sheets q_t_sh0 q_t_sh0_cells q_t_sh1 q_t_sh1_cells q_t_sh2 q_t_sh2_cells q_t_sh3 q_t_sh3_cells t_traced t_lastFault (va_up t_sh_lane 2 y13.1) (va_up t_sh_size 2 y13.2.1) (va_up t_sh_cells 2 y13.2.2))) (va_runV (As := [.int p_lane, .int p_n]) (rest := []) ⟨hx, hb, hml, hown, hts⟩ (c_Sh_begin l D cI cJ cS q_t_sh2 q_t_sh2_cells (t_sh_lane 2) (t_sh_size 2) (t_sh_cells 2) p_lane p_n y13 h14 _) (cwV 2 hts gX8_sheet_X6_begin rfl rfl rfl (by decide +kernel) ⟨(Nat.le_of_ble_eq_true rfl), (Nat.le_of_ble_eq_true rfl)⟩) (pre_V hK hP hD [6, 7] rfl rfl rfl rfl) rfl rfl hl.1 rfl (lv_room (Nat.le_of_ble_eq_true rfl)) dX8_sheet_51 ⟨Nat.zero_le _, Nat.zero_le _⟩) hP hD hS hA [6, 7] [0, 1, 2, 3, 4, 5, 8, 9] [0, 1, 2, 3, 4, 5, 8, 9, 6, 7] rfl rfl rfl (by decide) rfl rfl (fun H locs hP hD hS => ?_)
            refine lv_aload_n hx hb dX8_sheet_54 rfl (lv_at hl 0 rfl) ?_
            refine lv_iconst (v := 1) hx hb dX8_sheet_55 (by decide) ?_
            obtain ⟨y15, h16, hM⟩ := o_bd hM
            refine af_i (ws2 := (w_Tq_sheet cI cJ cS q_t q_t_plan q_t_counter q_t_choices q_t_ringers q_t_readings q_t_sheets q_t_sh0 q_t_sh0_cells q_t_sh1 q_t_sh1_cells q_t_sh2 q_t_sh2_cells q_t_sh3 q_t_sh3_cells t_traced y15.2 (va_up t_sh_lane 2 y13.1) (va_up t_sh_size 2 y13.2.1) (va_up t_sh_cells 2 y13.2.2))) (va_runV (As := [.int 1]) (rest := []) ⟨hx, hb, hml, hown, hts⟩ (c_Tq_faultless l D cI cJ cS q_t q_t_plan q_t_counter q_t_choices q_t_ringers q_t_readings q_t_sheets t_traced t_lastFault 1 y15 h16 _) (cwV 1 hts gX8_sheet_X8_faultless rfl rfl rfl (by decide +kernel) ⟨(Nat.le_of_ble_eq_true rfl), (Nat.le_of_ble_eq_true rfl)⟩) (pre_V hK hP hD [0] rfl rfl rfl rfl) rfl rfl hl.1 rfl (lv_room (Nat.le_of_ble_eq_true rfl)) dX8_sheet_56 ⟨Nat.zero_le _, Nat.zero_le _⟩) hP hD hS hA [0] [1, 2, 3, 4, 5, 6, 7, 8, 9] [9, 0, 1, 2, 3, 4, 5, 6, 7, 8] rfl rfl rfl (by decide) rfl rfl (fun H locs hP hD hS => ?_)
            have hM := (Option.some.inj hM)
            subst hM
            exact rt_i hx hb hr hlocks hP hD hS dX8_sheet_59
          · refine W.eq (g2 := F0 m 49 ls [.ref q_t_sh3]) rfl ?_
            refine lv_iload_n hx hb dX8_sheet_49 rfl (lv_at hl 2 rfl) ?_
            refine lv_iload_n hx hb dX8_sheet_50 rfl (lv_at hl 3 rfl) ?_
            obtain ⟨y13, h14, hM⟩ := o_bd hM
            refine af_v (ws2 := (w_Tq_sheet cI cJ cS q_t q_t_plan q_t_counter q_t_choices q_t_ringers q_t_readings q_t_sheets q_t_sh0 q_t_sh0_cells q_t_sh1 q_t_sh1_cells q_t_sh2 q_t_sh2_cells q_t_sh3 q_t_sh3_cells t_traced t_lastFault (va_up t_sh_lane 3 y13.1) (va_up t_sh_size 3 y13.2.1) (va_up t_sh_cells 3 y13.2.2))) (va_runV (As := [.int p_lane, .int p_n]) (rest := []) ⟨hx, hb, hml, hown, hts⟩ (c_Sh_begin l D cI cJ cS q_t_sh3 q_t_sh3_cells (t_sh_lane 3) (t_sh_size 3) (t_sh_cells 3) p_lane p_n y13 h14 _) (cwV 2 hts gX8_sheet_X6_begin rfl rfl rfl (by decide +kernel) ⟨(Nat.le_of_ble_eq_true rfl), (Nat.le_of_ble_eq_true rfl)⟩) (pre_V hK hP hD [8, 9] rfl rfl rfl rfl) rfl rfl hl.1 rfl (lv_room (Nat.le_of_ble_eq_true rfl)) dX8_sheet_51 ⟨Nat.zero_le _, Nat.zero_le _⟩) hP hD hS hA [8, 9] [0, 1, 2, 3, 4, 5, 6, 7] [0, 1, 2, 3, 4, 5, 6, 7, 8, 9] rfl rfl rfl (by decide) rfl rfl (fun H locs hP hD hS => ?_)
            refine lv_aload_n hx hb dX8_sheet_54 rfl (lv_at hl 0 rfl) ?_
            refine lv_iconst (v := 1) hx hb dX8_sheet_55 (by decide) ?_
            obtain ⟨y15, h16, hM⟩ := o_bd hM
            refine af_i (ws2 := (w_Tq_sheet cI cJ cS q_t q_t_plan q_t_counter q_t_choices q_t_ringers q_t_readings q_t_sheets q_t_sh0 q_t_sh0_cells q_t_sh1 q_t_sh1_cells q_t_sh2 q_t_sh2_cells q_t_sh3 q_t_sh3_cells t_traced y15.2 (va_up t_sh_lane 3 y13.1) (va_up t_sh_size 3 y13.2.1) (va_up t_sh_cells 3 y13.2.2))) (va_runV (As := [.int 1]) (rest := []) ⟨hx, hb, hml, hown, hts⟩ (c_Tq_faultless l D cI cJ cS q_t q_t_plan q_t_counter q_t_choices q_t_ringers q_t_readings q_t_sheets t_traced t_lastFault 1 y15 h16 _) (cwV 1 hts gX8_sheet_X8_faultless rfl rfl rfl (by decide +kernel) ⟨(Nat.le_of_ble_eq_true rfl), (Nat.le_of_ble_eq_true rfl)⟩) (pre_V hK hP hD [0] rfl rfl rfl rfl) rfl rfl hl.1 rfl (lv_room (Nat.le_of_ble_eq_true rfl)) dX8_sheet_56 ⟨Nat.zero_le _, Nat.zero_le _⟩) hP hD hS hA [0] [1, 2, 3, 4, 5, 6, 7, 8, 9] [9, 0, 1, 2, 3, 4, 5, 6, 7, 8] rfl rfl rfl (by decide) rfl rfl (fun H locs hP hD hS => ?_)
            have hM := (Option.some.inj hM)
            subst hM
            exact rt_i hx hb hr hlocks hP hD hS dX8_sheet_59
        · have hM := (o_if hM).2 c10
          refine lv_aload_n hx hb dX8_sheet_37 rfl (lv_at hl 0 rfl) ?_
          refine lv_iconst (v := 4) hx hb dX8_sheet_38 (by decide) ?_
          obtain ⟨y17, h18, hM⟩ := o_bd hM
          refine af_i (ws2 := (w_Tq_sheet cI cJ cS q_t q_t_plan q_t_counter q_t_choices q_t_ringers q_t_readings q_t_sheets q_t_sh0 q_t_sh0_cells q_t_sh1 q_t_sh1_cells q_t_sh2 q_t_sh2_cells q_t_sh3 q_t_sh3_cells t_traced y17.2 t_sh_lane t_sh_size t_sh_cells)) (va_runV (As := [.int 4]) (rest := []) ⟨hx, hb, hml, hown, hts⟩ (c_Tq_faulted l D cI cJ cS q_t q_t_plan q_t_counter q_t_choices q_t_ringers q_t_readings q_t_sheets t_traced t_lastFault 4 y17 h18 _) (cwV 1 hts gX8_sheet_X8_faulted rfl rfl rfl (by decide +kernel) ⟨(Nat.le_of_ble_eq_true rfl), (Nat.le_of_ble_eq_true rfl)⟩) (pre_V hK hP hD [0] rfl rfl rfl rfl) rfl rfl hl.1 rfl (lv_room (Nat.le_of_ble_eq_true rfl)) dX8_sheet_39 ⟨Nat.zero_le _, Nat.zero_le _⟩) hP hD hS hA [0] [1, 2, 3, 4, 5, 6, 7, 8, 9] [9, 0, 1, 2, 3, 4, 5, 6, 7, 8] rfl rfl rfl (by decide) rfl rfl (fun H locs hP hD hS => ?_)
          have hM := (Option.some.inj hM)
          subst hM
          exact rt_i hx hb hr hlocks hP hD hS dX8_sheet_42
      · have hM := (o_if hM).2 c9
        refine lv_aload_n hx hb dX8_sheet_26 rfl (lv_at hl 0 rfl) ?_
        refine lv_bipush (v := (-2)) hx hb dX8_sheet_27 (by decide) ?_
        obtain ⟨y19, h20, hM⟩ := o_bd hM
        refine af_i (ws2 := (w_Tq_sheet cI cJ cS q_t q_t_plan q_t_counter q_t_choices q_t_ringers q_t_readings q_t_sheets q_t_sh0 q_t_sh0_cells q_t_sh1 q_t_sh1_cells q_t_sh2 q_t_sh2_cells q_t_sh3 q_t_sh3_cells t_traced y19.2 t_sh_lane t_sh_size t_sh_cells)) (va_runV (As := [.int (-2)]) (rest := []) ⟨hx, hb, hml, hown, hts⟩ (c_Tq_faultless l D cI cJ cS q_t q_t_plan q_t_counter q_t_choices q_t_ringers q_t_readings q_t_sheets t_traced t_lastFault (-2) y19 h20 _) (cwV 1 hts gX8_sheet_X8_faultless rfl rfl rfl (by decide +kernel) ⟨(Nat.le_of_ble_eq_true rfl), (Nat.le_of_ble_eq_true rfl)⟩) (pre_V hK hP hD [0] rfl rfl rfl rfl) rfl rfl hl.1 rfl (lv_room (Nat.le_of_ble_eq_true rfl)) dX8_sheet_29 ⟨Nat.zero_le _, Nat.zero_le _⟩) hP hD hS hA [0] [1, 2, 3, 4, 5, 6, 7, 8, 9] [9, 0, 1, 2, 3, 4, 5, 6, 7, 8] rfl rfl rfl (by decide) rfl rfl (fun H locs hP hD hS => ?_)
        have hM := (Option.some.inj hM)
        subst hM
        exact rt_i hx hb hr hlocks hP hD hS dX8_sheet_32
  · have hM := (o_if hM).1 c3
    refine lv_aload_n hx hb dX8_sheet_7 rfl (lv_at hl 0 rfl) ?_
    refine lv_iconst (v := (-1)) hx hb dX8_sheet_8 (by decide) ?_
    obtain ⟨y21, h22, hM⟩ := o_bd hM
    refine af_i (ws2 := (w_Tq_sheet cI cJ cS q_t q_t_plan q_t_counter q_t_choices q_t_ringers q_t_readings q_t_sheets q_t_sh0 q_t_sh0_cells q_t_sh1 q_t_sh1_cells q_t_sh2 q_t_sh2_cells q_t_sh3 q_t_sh3_cells t_traced y21.2 t_sh_lane t_sh_size t_sh_cells)) (va_runV (As := [.int (-1)]) (rest := []) ⟨hx, hb, hml, hown, hts⟩ (c_Tq_faultless l D cI cJ cS q_t q_t_plan q_t_counter q_t_choices q_t_ringers q_t_readings q_t_sheets t_traced t_lastFault (-1) y21 h22 _) (cwV 1 hts gX8_sheet_X8_faultless rfl rfl rfl (by decide +kernel) ⟨(Nat.le_of_ble_eq_true rfl), (Nat.le_of_ble_eq_true rfl)⟩) (pre_V hK hP hD [0] rfl rfl rfl rfl) rfl rfl hl.1 rfl (lv_room (Nat.le_of_ble_eq_true rfl)) dX8_sheet_9 ⟨Nat.zero_le _, Nat.zero_le _⟩) hP hD hS hA [0] [1, 2, 3, 4, 5, 6, 7, 8, 9] [9, 0, 1, 2, 3, 4, 5, 6, 7, 8] rfl rfl rfl (by decide) rfl rfl (fun H locs hP hD hS => ?_)
    have hM := (Option.some.inj hM)
    subst hM
    exact rt_i hx hb hr hlocks hP hD hS dX8_sheet_12
/-! ===== TurnQueue.lose ===== -/
abbrev w_Tq_lose (cI cJ cS : ClassId) (q_t : Nat) (q_t_plan : Nat) (q_t_counter : Nat) (q_t_choices : Nat) (q_t_ringers : Nat) (q_t_readings : Nat) (q_t_sheets : Nat) (q_t_sh0 : Nat) (q_t_sh0_cells : Nat) (q_t_sh1 : Nat) (q_t_sh1_cells : Nat) (q_t_sh2 : Nat) (q_t_sh2_cells : Nat) (q_t_sh3 : Nat) (q_t_sh3_cells : Nat) (t_traced : Int32) (t_lastFault : Int32) (t_sh_lane : Nat → Int32) (t_sh_size : Nat → Int32) (t_sh_cells : Nat → Nat → Int32) : va_W := [(q_t, .inr (7, [.ref q_t_plan, .ref q_t_counter, .ref q_t_choices, .ref q_t_ringers, .ref q_t_readings, .ref q_t_sheets, .int t_traced, .int t_lastFault])), (q_t_sheets, arS cS 4 (a4 q_t_sh0 q_t_sh1 q_t_sh2 q_t_sh3)), (q_t_sh0, .inr (6, [.ref q_t_sh0_cells, .int (t_sh_lane 0), .int (t_sh_size 0)])), (q_t_sh0_cells, ar cI 60 (t_sh_cells 0)), (q_t_sh1, .inr (6, [.ref q_t_sh1_cells, .int (t_sh_lane 1), .int (t_sh_size 1)])), (q_t_sh1_cells, ar cI 60 (t_sh_cells 1)), (q_t_sh2, .inr (6, [.ref q_t_sh2_cells, .int (t_sh_lane 2), .int (t_sh_size 2)])), (q_t_sh2_cells, ar cI 60 (t_sh_cells 2)), (q_t_sh3, .inr (6, [.ref q_t_sh3_cells, .int (t_sh_lane 3), .int (t_sh_size 3)])), (q_t_sh3_cells, ar cI 60 (t_sh_cells 3))]
abbrev rm_Tq_lose : Room := { frames := 1, cells := 0, slots := 0, locals := 20 }
noncomputable def Tq_lose (p_k : Int32) (t_sh_lane : Nat → Int32) (t_sh_size : Nat → Int32) : Option (Int32 × (Nat → Int32) × (Nat → Int32)) :=
  (Tq_isSheet p_k).bind fun y1 =>
  if y1 = 0 then
    some ((-1), t_sh_lane, t_sh_size)
  else
    if ck p_k 4 = true then
      lt p_k.toNatClampNeg fun j5 =>
      (Sh_hasNothing (t_sh_lane j5)).bind fun y6 =>
      if y6 = 0 then
        if ck p_k 4 = true then
          lt p_k.toNatClampNeg fun j10 =>
          (Sh_drop (t_sh_lane j10) (t_sh_size j10)).bind fun y11 =>
          some (1, va_up t_sh_lane j10 y11.1, va_up t_sh_size j10 y11.2)
        else none
      else
        some (0, t_sh_lane, t_sh_size)
    else none
set_option maxRecDepth 100000 in
set_option maxHeartbeats 4000000 in
theorem c_Tq_lose (l : Launch) (D : va_G) (cI cJ cS : ClassId) (q_t q_t_plan q_t_counter q_t_choices q_t_ringers q_t_readings q_t_sheets q_t_sh0 q_t_sh0_cells q_t_sh1 q_t_sh1_cells q_t_sh2 q_t_sh2_cells q_t_sh3 q_t_sh3_cells : Nat) (t_traced : Int32) (t_lastFault : Int32) (t_sh_lane : Nat → Int32) (t_sh_size : Nat → Int32) (t_sh_cells : Nat → Nat → Int32) (p_k : Int32) (o : Int32 × (Nat → Int32) × (Nat → Int32)) (hM : Tq_lose p_k t_sh_lane t_sh_size = some o) : Ci l yX8_lose wsX8_lose rm_Tq_lose D cI cJ cS [.ref q_t, .int p_k] (w_Tq_lose cI cJ cS q_t q_t_plan q_t_counter q_t_choices q_t_ringers q_t_readings q_t_sheets q_t_sh0 q_t_sh0_cells q_t_sh1 q_t_sh1_cells q_t_sh2 q_t_sh2_cells q_t_sh3 q_t_sh3_cells t_traced t_lastFault t_sh_lane t_sh_size t_sh_cells) (w_Tq_lose cI cJ cS q_t q_t_plan q_t_counter q_t_choices q_t_ringers q_t_readings q_t_sheets q_t_sh0 q_t_sh0_cells q_t_sh1 q_t_sh1_cells q_t_sh2 q_t_sh2_cells q_t_sh3 q_t_sh3_cells t_traced t_lastFault o.2.1 o.2.2 t_sh_cells) o.1 := by
  refine Ci.of (cc := cX8_lose) (maxL := 2) (ret := (some .int)) (by decide) rfl (Nat.le_of_ble_eq_true rfl) ?_
  intro p e s m args below meth c A ls hE
  obtain ⟨hx, hb, hr, hml, hown, hts, hlocks, hK, hA, hP, hD, hS, hl⟩ := hE
  have hown : s.vm.findClass RX8 = some m.cls := hown
  have hl : lv_has ls 2 [(0, .ref q_t), (1, .int p_k)] := hl
  have iX8 : ∀ w ∈ u_ws RX8 TX8 8, w ∈ wsX8_lose := by decide +kernel
  have k0 := hts (.fieldLink RX8 48 "TurnQueue" "sheets" "[LTurnQueue$Sheet;") (by decide +kernel)
  unfold Tq_lose at hM
  refine lv_iload_n hx hb dX8_lose_0 rfl (lv_at hl 1 rfl) ?_
  obtain ⟨y1, h2, hM⟩ := o_bd hM
  refine af_i (ws2 := (w_Tq_lose cI cJ cS q_t q_t_plan q_t_counter q_t_choices q_t_ringers q_t_readings q_t_sheets q_t_sh0 q_t_sh0_cells q_t_sh1 q_t_sh1_cells q_t_sh2 q_t_sh2_cells q_t_sh3 q_t_sh3_cells t_traced t_lastFault t_sh_lane t_sh_size t_sh_cells)) (va_runS (As := [.int p_k]) (rest := []) ⟨hx, hb, hml, hown, hts⟩ (c_Tq_isSheet l D cI cJ cS p_k y1 h2 _) (va_cwS 1 hts gX8_lose_X8_isSheet rfl rfl rfl (by decide +kernel) ⟨(Nat.le_of_ble_eq_true rfl), (Nat.le_of_ble_eq_true rfl)⟩) (pre_S hK hP hD [] rfl rfl) rfl rfl hl.1 rfl (lv_room (Nat.le_of_ble_eq_true rfl)) dX8_lose_1 ⟨Nat.zero_le _, Nat.zero_le _⟩) hP hD hS hA [] [0, 1, 2, 3, 4, 5, 6, 7, 8, 9] [0, 1, 2, 3, 4, 5, 6, 7, 8, 9] rfl rfl rfl (by decide) rfl rfl (fun H locs hP hD hS => ?_)
  refine lv_if_ne (tgt := 9) hx hb dX8_lose_4 (by decide) (fun c3 => ?_) (fun c3 => ?_)
  · have hM := (o_if hM).2 c3
    refine lv_aload_n hx hb dX8_lose_9 rfl (lv_at hl 0 rfl) ?_
    refine va_get (ci := 7) (v := .ref q_t_sheets) (C := RX8) (T := TX8) (N := 8) hx hb hts iX8 hown hK.1 hP 0 rfl rfl 5 (Nat.le_of_ble_eq_true rfl) k0 (fun _ h9 => h9) rfl dX8_lose_10 ?_
    refine lv_iload_n hx hb dX8_lose_13 rfl (lv_at hl 1 rfl) ?_
    obtain ⟨h4, hM⟩ := o_ck hM
    refine va_aldq hx hb hK.1 hP 1 2 rfl rfl h4 dX8_lose_14 ?_
    obtain ⟨j5, ej5⟩ : ∃ y : Nat, y = p_k.toNatClampNeg := ⟨_, rfl⟩
    have hM := o_lt hM j5 ej5
    have hj5 : j5 < 4 := by rw [ej5]; exact ck_lt h4
    rw [← ej5]
    rcases (show j5 = 0 ∨ j5 = 1 ∨ j5 = 2 ∨ j5 = 3 by omega) with rfl | rfl | rfl | rfl
    · refine W.eq (g2 := F0 m 15 ls [.ref q_t_sh0]) rfl ?_
      obtain ⟨y6, h7, hM⟩ := o_bd hM
      refine af_i (ws2 := (w_Tq_lose cI cJ cS q_t q_t_plan q_t_counter q_t_choices q_t_ringers q_t_readings q_t_sheets q_t_sh0 q_t_sh0_cells q_t_sh1 q_t_sh1_cells q_t_sh2 q_t_sh2_cells q_t_sh3 q_t_sh3_cells t_traced t_lastFault t_sh_lane t_sh_size t_sh_cells)) (va_runV (As := []) (rest := []) ⟨hx, hb, hml, hown, hts⟩ (c_Sh_hasNothing l D cI cJ cS q_t_sh0 q_t_sh0_cells (t_sh_lane 0) (t_sh_size 0) y6 h7 _) (cwV 0 hts gX8_lose_X6_hasNothing rfl rfl rfl (by decide +kernel) ⟨(Nat.le_of_ble_eq_true rfl), (Nat.le_of_ble_eq_true rfl)⟩) (pre_V hK hP hD [2] rfl rfl rfl rfl) rfl rfl hl.1 rfl (lv_room (Nat.le_of_ble_eq_true rfl)) dX8_lose_15 ⟨Nat.zero_le _, Nat.zero_le _⟩) hP hD hS hA [2] [0, 1, 3, 4, 5, 6, 7, 8, 9] [0, 1, 9, 2, 3, 4, 5, 6, 7, 8] rfl rfl rfl (by decide) rfl rfl (fun H locs hP hD hS => ?_)
      refine lv_if_eq (tgt := 23) hx hb dX8_lose_18 (by decide) (fun c8 => ?_) (fun c8 => ?_)
      · have hM := (o_if hM).1 c8
        refine lv_aload_n hx hb dX8_lose_23 rfl (lv_at hl 0 rfl) ?_
        refine va_get (ci := 7) (v := .ref q_t_sheets) (C := RX8) (T := TX8) (N := 8) hx hb hts iX8 hown hK.1 hP 0 rfl rfl 5 (Nat.le_of_ble_eq_true rfl) k0 (fun _ h9 => h9) rfl dX8_lose_24 ?_
        refine lv_iload_n hx hb dX8_lose_27 rfl (lv_at hl 1 rfl) ?_
        obtain ⟨h9, hM⟩ := o_ck hM
        refine va_aldq hx hb hK.1 hP 1 2 rfl rfl h9 dX8_lose_28 ?_
        obtain ⟨j10, ej10⟩ : ∃ y : Nat, y = p_k.toNatClampNeg := ⟨_, rfl⟩
        have hM := o_lt hM j10 ej10
        have hj10 : j10 < 4 := by rw [ej10]; exact ck_lt h9
        rw [← ej10]
        rcases (show j10 = 0 ∨ j10 = 1 ∨ j10 = 2 ∨ j10 = 3 by omega) with rfl | rfl | rfl | rfl
        · refine W.eq (g2 := F0 m 29 ls [.ref q_t_sh0]) rfl ?_
          obtain ⟨y11, h12, hM⟩ := o_bd hM
          refine af_v (ws2 := (w_Tq_lose cI cJ cS q_t q_t_plan q_t_counter q_t_choices q_t_ringers q_t_readings q_t_sheets q_t_sh0 q_t_sh0_cells q_t_sh1 q_t_sh1_cells q_t_sh2 q_t_sh2_cells q_t_sh3 q_t_sh3_cells t_traced t_lastFault (va_up t_sh_lane 0 y11.1) (va_up t_sh_size 0 y11.2) t_sh_cells)) (va_runV (As := []) (rest := []) ⟨hx, hb, hml, hown, hts⟩ (c_Sh_drop l D cI cJ cS q_t_sh0 q_t_sh0_cells (t_sh_lane 0) (t_sh_size 0) y11 h12 _) (cwV 0 hts gX8_lose_X6_drop rfl rfl rfl (by decide +kernel) ⟨(Nat.le_of_ble_eq_true rfl), (Nat.le_of_ble_eq_true rfl)⟩) (pre_V hK hP hD [2] rfl rfl rfl rfl) rfl rfl hl.1 rfl (lv_room (Nat.le_of_ble_eq_true rfl)) dX8_lose_29 ⟨Nat.zero_le _, Nat.zero_le _⟩) hP hD hS hA [2] [0, 1, 3, 4, 5, 6, 7, 8, 9] [0, 1, 9, 2, 3, 4, 5, 6, 7, 8] rfl rfl rfl (by decide) rfl rfl (fun H locs hP hD hS => ?_)
          refine lv_iconst (v := 1) hx hb dX8_lose_32 (by decide) ?_
          have hM := (Option.some.inj hM)
          subst hM
          exact rt_i hx hb hr hlocks hP hD hS dX8_lose_33
        · refine W.eq (g2 := F0 m 29 ls [.ref q_t_sh1]) rfl ?_
          obtain ⟨y11, h12, hM⟩ := o_bd hM
          refine af_v (ws2 := (w_Tq_lose cI cJ cS q_t q_t_plan q_t_counter q_t_choices q_t_ringers q_t_readings q_t_sheets q_t_sh0 q_t_sh0_cells q_t_sh1 q_t_sh1_cells q_t_sh2 q_t_sh2_cells q_t_sh3 q_t_sh3_cells t_traced t_lastFault (va_up t_sh_lane 1 y11.1) (va_up t_sh_size 1 y11.2) t_sh_cells)) (va_runV (As := []) (rest := []) ⟨hx, hb, hml, hown, hts⟩ (c_Sh_drop l D cI cJ cS q_t_sh1 q_t_sh1_cells (t_sh_lane 1) (t_sh_size 1) y11 h12 _) (cwV 0 hts gX8_lose_X6_drop rfl rfl rfl (by decide +kernel) ⟨(Nat.le_of_ble_eq_true rfl), (Nat.le_of_ble_eq_true rfl)⟩) (pre_V hK hP hD [4] rfl rfl rfl rfl) rfl rfl hl.1 rfl (lv_room (Nat.le_of_ble_eq_true rfl)) dX8_lose_29 ⟨Nat.zero_le _, Nat.zero_le _⟩) hP hD hS hA [4] [0, 1, 2, 3, 5, 6, 7, 8, 9] [0, 1, 2, 3, 9, 4, 5, 6, 7, 8] rfl rfl rfl (by decide) rfl rfl (fun H locs hP hD hS => ?_)
          refine lv_iconst (v := 1) hx hb dX8_lose_32 (by decide) ?_
          have hM := (Option.some.inj hM)
          subst hM
          exact rt_i hx hb hr hlocks hP hD hS dX8_lose_33
        · refine W.eq (g2 := F0 m 29 ls [.ref q_t_sh2]) rfl ?_
          obtain ⟨y11, h12, hM⟩ := o_bd hM
          refine af_v (ws2 := (w_Tq_lose cI cJ cS q_t q_t_plan q_t_counter q_t_choices q_t_ringers q_t_readings q_t_sheets q_t_sh0 q_t_sh0_cells q_t_sh1 q_t_sh1_cells q_t_sh2 q_t_sh2_cells q_t_sh3 q_t_sh3_cells t_traced t_lastFault (va_up t_sh_lane 2 y11.1) (va_up t_sh_size 2 y11.2) t_sh_cells)) (va_runV (As := []) (rest := []) ⟨hx, hb, hml, hown, hts⟩ (c_Sh_drop l D cI cJ cS q_t_sh2 q_t_sh2_cells (t_sh_lane 2) (t_sh_size 2) y11 h12 _) (cwV 0 hts gX8_lose_X6_drop rfl rfl rfl (by decide +kernel) ⟨(Nat.le_of_ble_eq_true rfl), (Nat.le_of_ble_eq_true rfl)⟩) (pre_V hK hP hD [6] rfl rfl rfl rfl) rfl rfl hl.1 rfl (lv_room (Nat.le_of_ble_eq_true rfl)) dX8_lose_29 ⟨Nat.zero_le _, Nat.zero_le _⟩) hP hD hS hA [6] [0, 1, 2, 3, 4, 5, 7, 8, 9] [0, 1, 2, 3, 4, 5, 9, 6, 7, 8] rfl rfl rfl (by decide) rfl rfl (fun H locs hP hD hS => ?_)
          refine lv_iconst (v := 1) hx hb dX8_lose_32 (by decide) ?_
          have hM := (Option.some.inj hM)
          subst hM
          exact rt_i hx hb hr hlocks hP hD hS dX8_lose_33
        · refine W.eq (g2 := F0 m 29 ls [.ref q_t_sh3]) rfl ?_
          obtain ⟨y11, h12, hM⟩ := o_bd hM
          refine af_v (ws2 := (w_Tq_lose cI cJ cS q_t q_t_plan q_t_counter q_t_choices q_t_ringers q_t_readings q_t_sheets q_t_sh0 q_t_sh0_cells q_t_sh1 q_t_sh1_cells q_t_sh2 q_t_sh2_cells q_t_sh3 q_t_sh3_cells t_traced t_lastFault (va_up t_sh_lane 3 y11.1) (va_up t_sh_size 3 y11.2) t_sh_cells)) (va_runV (As := []) (rest := []) ⟨hx, hb, hml, hown, hts⟩ (c_Sh_drop l D cI cJ cS q_t_sh3 q_t_sh3_cells (t_sh_lane 3) (t_sh_size 3) y11 h12 _) (cwV 0 hts gX8_lose_X6_drop rfl rfl rfl (by decide +kernel) ⟨(Nat.le_of_ble_eq_true rfl), (Nat.le_of_ble_eq_true rfl)⟩) (pre_V hK hP hD [8] rfl rfl rfl rfl) rfl rfl hl.1 rfl (lv_room (Nat.le_of_ble_eq_true rfl)) dX8_lose_29 ⟨Nat.zero_le _, Nat.zero_le _⟩) hP hD hS hA [8] [0, 1, 2, 3, 4, 5, 6, 7, 9] [0, 1, 2, 3, 4, 5, 6, 7, 9, 8] rfl rfl rfl (by decide) rfl rfl (fun H locs hP hD hS => ?_)
          refine lv_iconst (v := 1) hx hb dX8_lose_32 (by decide) ?_
          have hM := (Option.some.inj hM)
          subst hM
          exact rt_i hx hb hr hlocks hP hD hS dX8_lose_33
      · have hM := (o_if hM).2 c8
        refine lv_iconst (v := 0) hx hb dX8_lose_21 (by decide) ?_
        have hM := (Option.some.inj hM)
        subst hM
        exact rt_i hx hb hr hlocks hP hD hS dX8_lose_22
    · refine W.eq (g2 := F0 m 15 ls [.ref q_t_sh1]) rfl ?_
      obtain ⟨y6, h7, hM⟩ := o_bd hM
      refine af_i (ws2 := (w_Tq_lose cI cJ cS q_t q_t_plan q_t_counter q_t_choices q_t_ringers q_t_readings q_t_sheets q_t_sh0 q_t_sh0_cells q_t_sh1 q_t_sh1_cells q_t_sh2 q_t_sh2_cells q_t_sh3 q_t_sh3_cells t_traced t_lastFault t_sh_lane t_sh_size t_sh_cells)) (va_runV (As := []) (rest := []) ⟨hx, hb, hml, hown, hts⟩ (c_Sh_hasNothing l D cI cJ cS q_t_sh1 q_t_sh1_cells (t_sh_lane 1) (t_sh_size 1) y6 h7 _) (cwV 0 hts gX8_lose_X6_hasNothing rfl rfl rfl (by decide +kernel) ⟨(Nat.le_of_ble_eq_true rfl), (Nat.le_of_ble_eq_true rfl)⟩) (pre_V hK hP hD [4] rfl rfl rfl rfl) rfl rfl hl.1 rfl (lv_room (Nat.le_of_ble_eq_true rfl)) dX8_lose_15 ⟨Nat.zero_le _, Nat.zero_le _⟩) hP hD hS hA [4] [0, 1, 2, 3, 5, 6, 7, 8, 9] [0, 1, 2, 3, 9, 4, 5, 6, 7, 8] rfl rfl rfl (by decide) rfl rfl (fun H locs hP hD hS => ?_)
      refine lv_if_eq (tgt := 23) hx hb dX8_lose_18 (by decide) (fun c8 => ?_) (fun c8 => ?_)
      · have hM := (o_if hM).1 c8
        refine lv_aload_n hx hb dX8_lose_23 rfl (lv_at hl 0 rfl) ?_
        refine va_get (ci := 7) (v := .ref q_t_sheets) (C := RX8) (T := TX8) (N := 8) hx hb hts iX8 hown hK.1 hP 0 rfl rfl 5 (Nat.le_of_ble_eq_true rfl) k0 (fun _ h9 => h9) rfl dX8_lose_24 ?_
        refine lv_iload_n hx hb dX8_lose_27 rfl (lv_at hl 1 rfl) ?_
        obtain ⟨h9, hM⟩ := o_ck hM
        refine va_aldq hx hb hK.1 hP 1 2 rfl rfl h9 dX8_lose_28 ?_
        obtain ⟨j10, ej10⟩ : ∃ y : Nat, y = p_k.toNatClampNeg := ⟨_, rfl⟩
        have hM := o_lt hM j10 ej10
        have hj10 : j10 < 4 := by rw [ej10]; exact ck_lt h9
        rw [← ej10]
        rcases (show j10 = 0 ∨ j10 = 1 ∨ j10 = 2 ∨ j10 = 3 by omega) with rfl | rfl | rfl | rfl
        · refine W.eq (g2 := F0 m 29 ls [.ref q_t_sh0]) rfl ?_
          obtain ⟨y11, h12, hM⟩ := o_bd hM
          refine af_v (ws2 := (w_Tq_lose cI cJ cS q_t q_t_plan q_t_counter q_t_choices q_t_ringers q_t_readings q_t_sheets q_t_sh0 q_t_sh0_cells q_t_sh1 q_t_sh1_cells q_t_sh2 q_t_sh2_cells q_t_sh3 q_t_sh3_cells t_traced t_lastFault (va_up t_sh_lane 0 y11.1) (va_up t_sh_size 0 y11.2) t_sh_cells)) (va_runV (As := []) (rest := []) ⟨hx, hb, hml, hown, hts⟩ (c_Sh_drop l D cI cJ cS q_t_sh0 q_t_sh0_cells (t_sh_lane 0) (t_sh_size 0) y11 h12 _) (cwV 0 hts gX8_lose_X6_drop rfl rfl rfl (by decide +kernel) ⟨(Nat.le_of_ble_eq_true rfl), (Nat.le_of_ble_eq_true rfl)⟩) (pre_V hK hP hD [2] rfl rfl rfl rfl) rfl rfl hl.1 rfl (lv_room (Nat.le_of_ble_eq_true rfl)) dX8_lose_29 ⟨Nat.zero_le _, Nat.zero_le _⟩) hP hD hS hA [2] [0, 1, 3, 4, 5, 6, 7, 8, 9] [0, 1, 9, 2, 3, 4, 5, 6, 7, 8] rfl rfl rfl (by decide) rfl rfl (fun H locs hP hD hS => ?_)
          refine lv_iconst (v := 1) hx hb dX8_lose_32 (by decide) ?_
          have hM := (Option.some.inj hM)
          subst hM
          exact rt_i hx hb hr hlocks hP hD hS dX8_lose_33
        · refine W.eq (g2 := F0 m 29 ls [.ref q_t_sh1]) rfl ?_
          obtain ⟨y11, h12, hM⟩ := o_bd hM
          refine af_v (ws2 := (w_Tq_lose cI cJ cS q_t q_t_plan q_t_counter q_t_choices q_t_ringers q_t_readings q_t_sheets q_t_sh0 q_t_sh0_cells q_t_sh1 q_t_sh1_cells q_t_sh2 q_t_sh2_cells q_t_sh3 q_t_sh3_cells t_traced t_lastFault (va_up t_sh_lane 1 y11.1) (va_up t_sh_size 1 y11.2) t_sh_cells)) (va_runV (As := []) (rest := []) ⟨hx, hb, hml, hown, hts⟩ (c_Sh_drop l D cI cJ cS q_t_sh1 q_t_sh1_cells (t_sh_lane 1) (t_sh_size 1) y11 h12 _) (cwV 0 hts gX8_lose_X6_drop rfl rfl rfl (by decide +kernel) ⟨(Nat.le_of_ble_eq_true rfl), (Nat.le_of_ble_eq_true rfl)⟩) (pre_V hK hP hD [4] rfl rfl rfl rfl) rfl rfl hl.1 rfl (lv_room (Nat.le_of_ble_eq_true rfl)) dX8_lose_29 ⟨Nat.zero_le _, Nat.zero_le _⟩) hP hD hS hA [4] [0, 1, 2, 3, 5, 6, 7, 8, 9] [0, 1, 2, 3, 9, 4, 5, 6, 7, 8] rfl rfl rfl (by decide) rfl rfl (fun H locs hP hD hS => ?_)
          refine lv_iconst (v := 1) hx hb dX8_lose_32 (by decide) ?_
          have hM := (Option.some.inj hM)
          subst hM
          exact rt_i hx hb hr hlocks hP hD hS dX8_lose_33
        · refine W.eq (g2 := F0 m 29 ls [.ref q_t_sh2]) rfl ?_
          obtain ⟨y11, h12, hM⟩ := o_bd hM
          refine af_v (ws2 := (w_Tq_lose cI cJ cS q_t q_t_plan q_t_counter q_t_choices q_t_ringers q_t_readings q_t_sheets q_t_sh0 q_t_sh0_cells q_t_sh1 q_t_sh1_cells q_t_sh2 q_t_sh2_cells q_t_sh3 q_t_sh3_cells t_traced t_lastFault (va_up t_sh_lane 2 y11.1) (va_up t_sh_size 2 y11.2) t_sh_cells)) (va_runV (As := []) (rest := []) ⟨hx, hb, hml, hown, hts⟩ (c_Sh_drop l D cI cJ cS q_t_sh2 q_t_sh2_cells (t_sh_lane 2) (t_sh_size 2) y11 h12 _) (cwV 0 hts gX8_lose_X6_drop rfl rfl rfl (by decide +kernel) ⟨(Nat.le_of_ble_eq_true rfl), (Nat.le_of_ble_eq_true rfl)⟩) (pre_V hK hP hD [6] rfl rfl rfl rfl) rfl rfl hl.1 rfl (lv_room (Nat.le_of_ble_eq_true rfl)) dX8_lose_29 ⟨Nat.zero_le _, Nat.zero_le _⟩) hP hD hS hA [6] [0, 1, 2, 3, 4, 5, 7, 8, 9] [0, 1, 2, 3, 4, 5, 9, 6, 7, 8] rfl rfl rfl (by decide) rfl rfl (fun H locs hP hD hS => ?_)
          refine lv_iconst (v := 1) hx hb dX8_lose_32 (by decide) ?_
          have hM := (Option.some.inj hM)
          subst hM
          exact rt_i hx hb hr hlocks hP hD hS dX8_lose_33
        · refine W.eq (g2 := F0 m 29 ls [.ref q_t_sh3]) rfl ?_
          obtain ⟨y11, h12, hM⟩ := o_bd hM
          refine af_v (ws2 := (w_Tq_lose cI cJ cS q_t q_t_plan q_t_counter q_t_choices q_t_ringers q_t_readings q_t_sheets q_t_sh0 q_t_sh0_cells q_t_sh1 q_t_sh1_cells q_t_sh2 q_t_sh2_cells q_t_sh3 q_t_sh3_cells t_traced t_lastFault (va_up t_sh_lane 3 y11.1) (va_up t_sh_size 3 y11.2) t_sh_cells)) (va_runV (As := []) (rest := []) ⟨hx, hb, hml, hown, hts⟩ (c_Sh_drop l D cI cJ cS q_t_sh3 q_t_sh3_cells (t_sh_lane 3) (t_sh_size 3) y11 h12 _) (cwV 0 hts gX8_lose_X6_drop rfl rfl rfl (by decide +kernel) ⟨(Nat.le_of_ble_eq_true rfl), (Nat.le_of_ble_eq_true rfl)⟩) (pre_V hK hP hD [8] rfl rfl rfl rfl) rfl rfl hl.1 rfl (lv_room (Nat.le_of_ble_eq_true rfl)) dX8_lose_29 ⟨Nat.zero_le _, Nat.zero_le _⟩) hP hD hS hA [8] [0, 1, 2, 3, 4, 5, 6, 7, 9] [0, 1, 2, 3, 4, 5, 6, 7, 9, 8] rfl rfl rfl (by decide) rfl rfl (fun H locs hP hD hS => ?_)
          refine lv_iconst (v := 1) hx hb dX8_lose_32 (by decide) ?_
          have hM := (Option.some.inj hM)
          subst hM
          exact rt_i hx hb hr hlocks hP hD hS dX8_lose_33
      · have hM := (o_if hM).2 c8
        refine lv_iconst (v := 0) hx hb dX8_lose_21 (by decide) ?_
        have hM := (Option.some.inj hM)
        subst hM
        exact rt_i hx hb hr hlocks hP hD hS dX8_lose_22
    · refine W.eq (g2 := F0 m 15 ls [.ref q_t_sh2]) rfl ?_
      obtain ⟨y6, h7, hM⟩ := o_bd hM
      refine af_i (ws2 := (w_Tq_lose cI cJ cS q_t q_t_plan q_t_counter q_t_choices q_t_ringers q_t_readings q_t_sheets q_t_sh0 q_t_sh0_cells q_t_sh1 q_t_sh1_cells q_t_sh2 q_t_sh2_cells q_t_sh3 q_t_sh3_cells t_traced t_lastFault t_sh_lane t_sh_size t_sh_cells)) (va_runV (As := []) (rest := []) ⟨hx, hb, hml, hown, hts⟩ (c_Sh_hasNothing l D cI cJ cS q_t_sh2 q_t_sh2_cells (t_sh_lane 2) (t_sh_size 2) y6 h7 _) (cwV 0 hts gX8_lose_X6_hasNothing rfl rfl rfl (by decide +kernel) ⟨(Nat.le_of_ble_eq_true rfl), (Nat.le_of_ble_eq_true rfl)⟩) (pre_V hK hP hD [6] rfl rfl rfl rfl) rfl rfl hl.1 rfl (lv_room (Nat.le_of_ble_eq_true rfl)) dX8_lose_15 ⟨Nat.zero_le _, Nat.zero_le _⟩) hP hD hS hA [6] [0, 1, 2, 3, 4, 5, 7, 8, 9] [0, 1, 2, 3, 4, 5, 9, 6, 7, 8] rfl rfl rfl (by decide) rfl rfl (fun H locs hP hD hS => ?_)
      refine lv_if_eq (tgt := 23) hx hb dX8_lose_18 (by decide) (fun c8 => ?_) (fun c8 => ?_)
      · have hM := (o_if hM).1 c8
        refine lv_aload_n hx hb dX8_lose_23 rfl (lv_at hl 0 rfl) ?_
        refine va_get (ci := 7) (v := .ref q_t_sheets) (C := RX8) (T := TX8) (N := 8) hx hb hts iX8 hown hK.1 hP 0 rfl rfl 5 (Nat.le_of_ble_eq_true rfl) k0 (fun _ h9 => h9) rfl dX8_lose_24 ?_
        refine lv_iload_n hx hb dX8_lose_27 rfl (lv_at hl 1 rfl) ?_
        obtain ⟨h9, hM⟩ := o_ck hM
        refine va_aldq hx hb hK.1 hP 1 2 rfl rfl h9 dX8_lose_28 ?_
        obtain ⟨j10, ej10⟩ : ∃ y : Nat, y = p_k.toNatClampNeg := ⟨_, rfl⟩
        have hM := o_lt hM j10 ej10
        have hj10 : j10 < 4 := by rw [ej10]; exact ck_lt h9
        rw [← ej10]
        rcases (show j10 = 0 ∨ j10 = 1 ∨ j10 = 2 ∨ j10 = 3 by omega) with rfl | rfl | rfl | rfl
        · refine W.eq (g2 := F0 m 29 ls [.ref q_t_sh0]) rfl ?_
          obtain ⟨y11, h12, hM⟩ := o_bd hM
          refine af_v (ws2 := (w_Tq_lose cI cJ cS q_t q_t_plan q_t_counter q_t_choices q_t_ringers q_t_readings q_t_sheets q_t_sh0 q_t_sh0_cells q_t_sh1 q_t_sh1_cells q_t_sh2 q_t_sh2_cells q_t_sh3 q_t_sh3_cells t_traced t_lastFault (va_up t_sh_lane 0 y11.1) (va_up t_sh_size 0 y11.2) t_sh_cells)) (va_runV (As := []) (rest := []) ⟨hx, hb, hml, hown, hts⟩ (c_Sh_drop l D cI cJ cS q_t_sh0 q_t_sh0_cells (t_sh_lane 0) (t_sh_size 0) y11 h12 _) (cwV 0 hts gX8_lose_X6_drop rfl rfl rfl (by decide +kernel) ⟨(Nat.le_of_ble_eq_true rfl), (Nat.le_of_ble_eq_true rfl)⟩) (pre_V hK hP hD [2] rfl rfl rfl rfl) rfl rfl hl.1 rfl (lv_room (Nat.le_of_ble_eq_true rfl)) dX8_lose_29 ⟨Nat.zero_le _, Nat.zero_le _⟩) hP hD hS hA [2] [0, 1, 3, 4, 5, 6, 7, 8, 9] [0, 1, 9, 2, 3, 4, 5, 6, 7, 8] rfl rfl rfl (by decide) rfl rfl (fun H locs hP hD hS => ?_)
          refine lv_iconst (v := 1) hx hb dX8_lose_32 (by decide) ?_
          have hM := (Option.some.inj hM)
          subst hM
          exact rt_i hx hb hr hlocks hP hD hS dX8_lose_33
        · refine W.eq (g2 := F0 m 29 ls [.ref q_t_sh1]) rfl ?_
          obtain ⟨y11, h12, hM⟩ := o_bd hM
          refine af_v (ws2 := (w_Tq_lose cI cJ cS q_t q_t_plan q_t_counter q_t_choices q_t_ringers q_t_readings q_t_sheets q_t_sh0 q_t_sh0_cells q_t_sh1 q_t_sh1_cells q_t_sh2 q_t_sh2_cells q_t_sh3 q_t_sh3_cells t_traced t_lastFault (va_up t_sh_lane 1 y11.1) (va_up t_sh_size 1 y11.2) t_sh_cells)) (va_runV (As := []) (rest := []) ⟨hx, hb, hml, hown, hts⟩ (c_Sh_drop l D cI cJ cS q_t_sh1 q_t_sh1_cells (t_sh_lane 1) (t_sh_size 1) y11 h12 _) (cwV 0 hts gX8_lose_X6_drop rfl rfl rfl (by decide +kernel) ⟨(Nat.le_of_ble_eq_true rfl), (Nat.le_of_ble_eq_true rfl)⟩) (pre_V hK hP hD [4] rfl rfl rfl rfl) rfl rfl hl.1 rfl (lv_room (Nat.le_of_ble_eq_true rfl)) dX8_lose_29 ⟨Nat.zero_le _, Nat.zero_le _⟩) hP hD hS hA [4] [0, 1, 2, 3, 5, 6, 7, 8, 9] [0, 1, 2, 3, 9, 4, 5, 6, 7, 8] rfl rfl rfl (by decide) rfl rfl (fun H locs hP hD hS => ?_)
          refine lv_iconst (v := 1) hx hb dX8_lose_32 (by decide) ?_
          have hM := (Option.some.inj hM)
          subst hM
          exact rt_i hx hb hr hlocks hP hD hS dX8_lose_33
        · refine W.eq (g2 := F0 m 29 ls [.ref q_t_sh2]) rfl ?_
          obtain ⟨y11, h12, hM⟩ := o_bd hM
          refine af_v (ws2 := (w_Tq_lose cI cJ cS q_t q_t_plan q_t_counter q_t_choices q_t_ringers q_t_readings q_t_sheets q_t_sh0 q_t_sh0_cells q_t_sh1 q_t_sh1_cells q_t_sh2 q_t_sh2_cells q_t_sh3 q_t_sh3_cells t_traced t_lastFault (va_up t_sh_lane 2 y11.1) (va_up t_sh_size 2 y11.2) t_sh_cells)) (va_runV (As := []) (rest := []) ⟨hx, hb, hml, hown, hts⟩ (c_Sh_drop l D cI cJ cS q_t_sh2 q_t_sh2_cells (t_sh_lane 2) (t_sh_size 2) y11 h12 _) (cwV 0 hts gX8_lose_X6_drop rfl rfl rfl (by decide +kernel) ⟨(Nat.le_of_ble_eq_true rfl), (Nat.le_of_ble_eq_true rfl)⟩) (pre_V hK hP hD [6] rfl rfl rfl rfl) rfl rfl hl.1 rfl (lv_room (Nat.le_of_ble_eq_true rfl)) dX8_lose_29 ⟨Nat.zero_le _, Nat.zero_le _⟩) hP hD hS hA [6] [0, 1, 2, 3, 4, 5, 7, 8, 9] [0, 1, 2, 3, 4, 5, 9, 6, 7, 8] rfl rfl rfl (by decide) rfl rfl (fun H locs hP hD hS => ?_)
          refine lv_iconst (v := 1) hx hb dX8_lose_32 (by decide) ?_
          have hM := (Option.some.inj hM)
          subst hM
          exact rt_i hx hb hr hlocks hP hD hS dX8_lose_33
        · refine W.eq (g2 := F0 m 29 ls [.ref q_t_sh3]) rfl ?_
          obtain ⟨y11, h12, hM⟩ := o_bd hM
          refine af_v (ws2 := (w_Tq_lose cI cJ cS q_t q_t_plan q_t_counter q_t_choices q_t_ringers q_t_readings q_t_sheets q_t_sh0 q_t_sh0_cells q_t_sh1 q_t_sh1_cells q_t_sh2 q_t_sh2_cells q_t_sh3 q_t_sh3_cells t_traced t_lastFault (va_up t_sh_lane 3 y11.1) (va_up t_sh_size 3 y11.2) t_sh_cells)) (va_runV (As := []) (rest := []) ⟨hx, hb, hml, hown, hts⟩ (c_Sh_drop l D cI cJ cS q_t_sh3 q_t_sh3_cells (t_sh_lane 3) (t_sh_size 3) y11 h12 _) (cwV 0 hts gX8_lose_X6_drop rfl rfl rfl (by decide +kernel) ⟨(Nat.le_of_ble_eq_true rfl), (Nat.le_of_ble_eq_true rfl)⟩) (pre_V hK hP hD [8] rfl rfl rfl rfl) rfl rfl hl.1 rfl (lv_room (Nat.le_of_ble_eq_true rfl)) dX8_lose_29 ⟨Nat.zero_le _, Nat.zero_le _⟩) hP hD hS hA [8] [0, 1, 2, 3, 4, 5, 6, 7, 9] [0, 1, 2, 3, 4, 5, 6, 7, 9, 8] rfl rfl rfl (by decide) rfl rfl (fun H locs hP hD hS => ?_)
          refine lv_iconst (v := 1) hx hb dX8_lose_32 (by decide) ?_
          have hM := (Option.some.inj hM)
          subst hM
          exact rt_i hx hb hr hlocks hP hD hS dX8_lose_33
      · have hM := (o_if hM).2 c8
        refine lv_iconst (v := 0) hx hb dX8_lose_21 (by decide) ?_
        have hM := (Option.some.inj hM)
        subst hM
        exact rt_i hx hb hr hlocks hP hD hS dX8_lose_22
    · refine W.eq (g2 := F0 m 15 ls [.ref q_t_sh3]) rfl ?_
      obtain ⟨y6, h7, hM⟩ := o_bd hM
      refine af_i (ws2 := (w_Tq_lose cI cJ cS q_t q_t_plan q_t_counter q_t_choices q_t_ringers q_t_readings q_t_sheets q_t_sh0 q_t_sh0_cells q_t_sh1 q_t_sh1_cells q_t_sh2 q_t_sh2_cells q_t_sh3 q_t_sh3_cells t_traced t_lastFault t_sh_lane t_sh_size t_sh_cells)) (va_runV (As := []) (rest := []) ⟨hx, hb, hml, hown, hts⟩ (c_Sh_hasNothing l D cI cJ cS q_t_sh3 q_t_sh3_cells (t_sh_lane 3) (t_sh_size 3) y6 h7 _) (cwV 0 hts gX8_lose_X6_hasNothing rfl rfl rfl (by decide +kernel) ⟨(Nat.le_of_ble_eq_true rfl), (Nat.le_of_ble_eq_true rfl)⟩) (pre_V hK hP hD [8] rfl rfl rfl rfl) rfl rfl hl.1 rfl (lv_room (Nat.le_of_ble_eq_true rfl)) dX8_lose_15 ⟨Nat.zero_le _, Nat.zero_le _⟩) hP hD hS hA [8] [0, 1, 2, 3, 4, 5, 6, 7, 9] [0, 1, 2, 3, 4, 5, 6, 7, 9, 8] rfl rfl rfl (by decide) rfl rfl (fun H locs hP hD hS => ?_)
      refine lv_if_eq (tgt := 23) hx hb dX8_lose_18 (by decide) (fun c8 => ?_) (fun c8 => ?_)
      · have hM := (o_if hM).1 c8
        refine lv_aload_n hx hb dX8_lose_23 rfl (lv_at hl 0 rfl) ?_
        refine va_get (ci := 7) (v := .ref q_t_sheets) (C := RX8) (T := TX8) (N := 8) hx hb hts iX8 hown hK.1 hP 0 rfl rfl 5 (Nat.le_of_ble_eq_true rfl) k0 (fun _ h9 => h9) rfl dX8_lose_24 ?_
        refine lv_iload_n hx hb dX8_lose_27 rfl (lv_at hl 1 rfl) ?_
        obtain ⟨h9, hM⟩ := o_ck hM
        refine va_aldq hx hb hK.1 hP 1 2 rfl rfl h9 dX8_lose_28 ?_
        obtain ⟨j10, ej10⟩ : ∃ y : Nat, y = p_k.toNatClampNeg := ⟨_, rfl⟩
        have hM := o_lt hM j10 ej10
        have hj10 : j10 < 4 := by rw [ej10]; exact ck_lt h9
        rw [← ej10]
        rcases (show j10 = 0 ∨ j10 = 1 ∨ j10 = 2 ∨ j10 = 3 by omega) with rfl | rfl | rfl | rfl
        · refine W.eq (g2 := F0 m 29 ls [.ref q_t_sh0]) rfl ?_
          obtain ⟨y11, h12, hM⟩ := o_bd hM
          refine af_v (ws2 := (w_Tq_lose cI cJ cS q_t q_t_plan q_t_counter q_t_choices q_t_ringers q_t_readings q_t_sheets q_t_sh0 q_t_sh0_cells q_t_sh1 q_t_sh1_cells q_t_sh2 q_t_sh2_cells q_t_sh3 q_t_sh3_cells t_traced t_lastFault (va_up t_sh_lane 0 y11.1) (va_up t_sh_size 0 y11.2) t_sh_cells)) (va_runV (As := []) (rest := []) ⟨hx, hb, hml, hown, hts⟩ (c_Sh_drop l D cI cJ cS q_t_sh0 q_t_sh0_cells (t_sh_lane 0) (t_sh_size 0) y11 h12 _) (cwV 0 hts gX8_lose_X6_drop rfl rfl rfl (by decide +kernel) ⟨(Nat.le_of_ble_eq_true rfl), (Nat.le_of_ble_eq_true rfl)⟩) (pre_V hK hP hD [2] rfl rfl rfl rfl) rfl rfl hl.1 rfl (lv_room (Nat.le_of_ble_eq_true rfl)) dX8_lose_29 ⟨Nat.zero_le _, Nat.zero_le _⟩) hP hD hS hA [2] [0, 1, 3, 4, 5, 6, 7, 8, 9] [0, 1, 9, 2, 3, 4, 5, 6, 7, 8] rfl rfl rfl (by decide) rfl rfl (fun H locs hP hD hS => ?_)
          refine lv_iconst (v := 1) hx hb dX8_lose_32 (by decide) ?_
          have hM := (Option.some.inj hM)
          subst hM
          exact rt_i hx hb hr hlocks hP hD hS dX8_lose_33
        · refine W.eq (g2 := F0 m 29 ls [.ref q_t_sh1]) rfl ?_
          obtain ⟨y11, h12, hM⟩ := o_bd hM
          refine af_v (ws2 := (w_Tq_lose cI cJ cS q_t q_t_plan q_t_counter q_t_choices q_t_ringers q_t_readings q_t_sheets q_t_sh0 q_t_sh0_cells q_t_sh1 q_t_sh1_cells q_t_sh2 q_t_sh2_cells q_t_sh3 q_t_sh3_cells t_traced t_lastFault (va_up t_sh_lane 1 y11.1) (va_up t_sh_size 1 y11.2) t_sh_cells)) (va_runV (As := []) (rest := []) ⟨hx, hb, hml, hown, hts⟩ (c_Sh_drop l D cI cJ cS q_t_sh1 q_t_sh1_cells (t_sh_lane 1) (t_sh_size 1) y11 h12 _) (cwV 0 hts gX8_lose_X6_drop rfl rfl rfl (by decide +kernel) ⟨(Nat.le_of_ble_eq_true rfl), (Nat.le_of_ble_eq_true rfl)⟩) (pre_V hK hP hD [4] rfl rfl rfl rfl) rfl rfl hl.1 rfl (lv_room (Nat.le_of_ble_eq_true rfl)) dX8_lose_29 ⟨Nat.zero_le _, Nat.zero_le _⟩) hP hD hS hA [4] [0, 1, 2, 3, 5, 6, 7, 8, 9] [0, 1, 2, 3, 9, 4, 5, 6, 7, 8] rfl rfl rfl (by decide) rfl rfl (fun H locs hP hD hS => ?_)
          refine lv_iconst (v := 1) hx hb dX8_lose_32 (by decide) ?_
          have hM := (Option.some.inj hM)
          subst hM
          exact rt_i hx hb hr hlocks hP hD hS dX8_lose_33
        · refine W.eq (g2 := F0 m 29 ls [.ref q_t_sh2]) rfl ?_
          obtain ⟨y11, h12, hM⟩ := o_bd hM
          refine af_v (ws2 := (w_Tq_lose cI cJ cS q_t q_t_plan q_t_counter q_t_choices q_t_ringers q_t_readings q_t_sheets q_t_sh0 q_t_sh0_cells q_t_sh1 q_t_sh1_cells q_t_sh2 q_t_sh2_cells q_t_sh3 q_t_sh3_cells t_traced t_lastFault (va_up t_sh_lane 2 y11.1) (va_up t_sh_size 2 y11.2) t_sh_cells)) (va_runV (As := []) (rest := []) ⟨hx, hb, hml, hown, hts⟩ (c_Sh_drop l D cI cJ cS q_t_sh2 q_t_sh2_cells (t_sh_lane 2) (t_sh_size 2) y11 h12 _) (cwV 0 hts gX8_lose_X6_drop rfl rfl rfl (by decide +kernel) ⟨(Nat.le_of_ble_eq_true rfl), (Nat.le_of_ble_eq_true rfl)⟩) (pre_V hK hP hD [6] rfl rfl rfl rfl) rfl rfl hl.1 rfl (lv_room (Nat.le_of_ble_eq_true rfl)) dX8_lose_29 ⟨Nat.zero_le _, Nat.zero_le _⟩) hP hD hS hA [6] [0, 1, 2, 3, 4, 5, 7, 8, 9] [0, 1, 2, 3, 4, 5, 9, 6, 7, 8] rfl rfl rfl (by decide) rfl rfl (fun H locs hP hD hS => ?_)
          refine lv_iconst (v := 1) hx hb dX8_lose_32 (by decide) ?_
          have hM := (Option.some.inj hM)
          subst hM
          exact rt_i hx hb hr hlocks hP hD hS dX8_lose_33
        · refine W.eq (g2 := F0 m 29 ls [.ref q_t_sh3]) rfl ?_
          obtain ⟨y11, h12, hM⟩ := o_bd hM
          refine af_v (ws2 := (w_Tq_lose cI cJ cS q_t q_t_plan q_t_counter q_t_choices q_t_ringers q_t_readings q_t_sheets q_t_sh0 q_t_sh0_cells q_t_sh1 q_t_sh1_cells q_t_sh2 q_t_sh2_cells q_t_sh3 q_t_sh3_cells t_traced t_lastFault (va_up t_sh_lane 3 y11.1) (va_up t_sh_size 3 y11.2) t_sh_cells)) (va_runV (As := []) (rest := []) ⟨hx, hb, hml, hown, hts⟩ (c_Sh_drop l D cI cJ cS q_t_sh3 q_t_sh3_cells (t_sh_lane 3) (t_sh_size 3) y11 h12 _) (cwV 0 hts gX8_lose_X6_drop rfl rfl rfl (by decide +kernel) ⟨(Nat.le_of_ble_eq_true rfl), (Nat.le_of_ble_eq_true rfl)⟩) (pre_V hK hP hD [8] rfl rfl rfl rfl) rfl rfl hl.1 rfl (lv_room (Nat.le_of_ble_eq_true rfl)) dX8_lose_29 ⟨Nat.zero_le _, Nat.zero_le _⟩) hP hD hS hA [8] [0, 1, 2, 3, 4, 5, 6, 7, 9] [0, 1, 2, 3, 4, 5, 6, 7, 9, 8] rfl rfl rfl (by decide) rfl rfl (fun H locs hP hD hS => ?_)
          refine lv_iconst (v := 1) hx hb dX8_lose_32 (by decide) ?_
          have hM := (Option.some.inj hM)
          subst hM
          exact rt_i hx hb hr hlocks hP hD hS dX8_lose_33
      · have hM := (o_if hM).2 c8
        refine lv_iconst (v := 0) hx hb dX8_lose_21 (by decide) ?_
        have hM := (Option.some.inj hM)
        subst hM
        exact rt_i hx hb hr hlocks hP hD hS dX8_lose_22
  · have hM := (o_if hM).1 c3
    refine lv_iconst (v := (-1)) hx hb dX8_lose_7 (by decide) ?_
    have hM := (Option.some.inj hM)
    subst hM
    exact rt_i hx hb hr hlocks hP hD hS dX8_lose_8
/-! ===== TurnQueue.put ===== -/
abbrev w_Tq_put (cI cJ cS : ClassId) (q_t : Nat) (q_t_plan : Nat) (q_t_counter : Nat) (q_t_choices : Nat) (q_t_ringers : Nat) (q_t_readings : Nat) (q_t_sheets : Nat) (q_t_sh0 : Nat) (q_t_sh0_cells : Nat) (q_t_sh1 : Nat) (q_t_sh1_cells : Nat) (q_t_sh2 : Nat) (q_t_sh2_cells : Nat) (q_t_sh3 : Nat) (q_t_sh3_cells : Nat) (t_traced : Int32) (t_lastFault : Int32) (t_sh_lane : Nat → Int32) (t_sh_size : Nat → Int32) (t_sh_cells : Nat → Nat → Int32) : va_W := [(q_t, .inr (7, [.ref q_t_plan, .ref q_t_counter, .ref q_t_choices, .ref q_t_ringers, .ref q_t_readings, .ref q_t_sheets, .int t_traced, .int t_lastFault])), (q_t_sheets, arS cS 4 (a4 q_t_sh0 q_t_sh1 q_t_sh2 q_t_sh3)), (q_t_sh0, .inr (6, [.ref q_t_sh0_cells, .int (t_sh_lane 0), .int (t_sh_size 0)])), (q_t_sh0_cells, ar cI 60 (t_sh_cells 0)), (q_t_sh1, .inr (6, [.ref q_t_sh1_cells, .int (t_sh_lane 1), .int (t_sh_size 1)])), (q_t_sh1_cells, ar cI 60 (t_sh_cells 1)), (q_t_sh2, .inr (6, [.ref q_t_sh2_cells, .int (t_sh_lane 2), .int (t_sh_size 2)])), (q_t_sh2_cells, ar cI 60 (t_sh_cells 2)), (q_t_sh3, .inr (6, [.ref q_t_sh3_cells, .int (t_sh_lane 3), .int (t_sh_size 3)])), (q_t_sh3_cells, ar cI 60 (t_sh_cells 3))]
abbrev rm_Tq_put : Room := { frames := 2, cells := 0, slots := 0, locals := 43 }
noncomputable def Tq_put (p_k : Int32) (p_i : Int32) (p_v : Int32) (t_sh_lane : Nat → Int32) (t_sh_size : Nat → Int32) (t_lastFault : Int32) (t_sh_cells : Nat → Nat → Int32) : Option (Int32 × Int32 × (Nat → Nat → Int32)) :=
  (Tq_isSheet p_k).bind fun y1 =>
  if y1 = 0 then
    (Tq_faultless (-1) t_lastFault).bind fun y20 =>
    some (y20.1, y20.2, t_sh_cells)
  else
    if ck p_k 4 = true then
      lt p_k.toNatClampNeg fun j5 =>
      (Sh_hasNothing (t_sh_lane j5)).bind fun y6 =>
      if y6 = 0 then
        (Sh_holds p_i 1 (t_sh_size j5)).bind fun y9 =>
        if y9 = 0 then
          (Tq_faulted 3 t_lastFault).bind fun y16 =>
          some (y16.1, y16.2, t_sh_cells)
        else
          (Sh_write p_i p_v (t_sh_lane j5) (t_sh_size j5) (t_sh_cells j5)).bind fun y12 =>
          (Tq_faultless 1 t_lastFault).bind fun y14 =>
          some (y14.1, y14.2, va_up t_sh_cells j5 y12)
      else
        (Tq_faulted 1 t_lastFault).bind fun y18 =>
        some (y18.1, y18.2, t_sh_cells)
    else none
set_option maxRecDepth 100000 in
set_option maxHeartbeats 4000000 in
theorem c_Tq_put (l : Launch) (D : va_G) (cI cJ cS : ClassId) (q_t q_t_plan q_t_counter q_t_choices q_t_ringers q_t_readings q_t_sheets q_t_sh0 q_t_sh0_cells q_t_sh1 q_t_sh1_cells q_t_sh2 q_t_sh2_cells q_t_sh3 q_t_sh3_cells : Nat) (t_traced : Int32) (t_lastFault : Int32) (t_sh_lane : Nat → Int32) (t_sh_size : Nat → Int32) (t_sh_cells : Nat → Nat → Int32) (p_k : Int32) (p_i : Int32) (p_v : Int32) (o : Int32 × Int32 × (Nat → Nat → Int32)) (hM : Tq_put p_k p_i p_v t_sh_lane t_sh_size t_lastFault t_sh_cells = some o) : Ci l yX8_put wsX8_put rm_Tq_put D cI cJ cS [.ref q_t, .int p_k, .int p_i, .int p_v] (w_Tq_put cI cJ cS q_t q_t_plan q_t_counter q_t_choices q_t_ringers q_t_readings q_t_sheets q_t_sh0 q_t_sh0_cells q_t_sh1 q_t_sh1_cells q_t_sh2 q_t_sh2_cells q_t_sh3 q_t_sh3_cells t_traced t_lastFault t_sh_lane t_sh_size t_sh_cells) (w_Tq_put cI cJ cS q_t q_t_plan q_t_counter q_t_choices q_t_ringers q_t_readings q_t_sheets q_t_sh0 q_t_sh0_cells q_t_sh1 q_t_sh1_cells q_t_sh2 q_t_sh2_cells q_t_sh3 q_t_sh3_cells t_traced o.2.1 t_sh_lane t_sh_size o.2.2) o.1 := by
  refine Ci.of (cc := cX8_put) (maxL := 5) (ret := (some .int)) (by decide) rfl (Nat.le_of_ble_eq_true rfl) ?_
  intro p e s m args below meth c A ls hE
  obtain ⟨hx, hb, hr, hml, hown, hts, hlocks, hK, hA, hP, hD, hS, hl⟩ := hE
  have hown : s.vm.findClass RX8 = some m.cls := hown
  have hl : lv_has ls 5 [(0, .ref q_t), (1, .int p_k), (2, .int p_i), (3, .int p_v)] := hl
  have iX8 : ∀ w ∈ u_ws RX8 TX8 8, w ∈ wsX8_put := by decide +kernel
  have k0 := hts (.fieldLink RX8 48 "TurnQueue" "sheets" "[LTurnQueue$Sheet;") (by decide +kernel)
  unfold Tq_put at hM
  refine lv_iload_n hx hb dX8_put_0 rfl (lv_at hl 1 rfl) ?_
  obtain ⟨y1, h2, hM⟩ := o_bd hM
  refine af_i (ws2 := (w_Tq_put cI cJ cS q_t q_t_plan q_t_counter q_t_choices q_t_ringers q_t_readings q_t_sheets q_t_sh0 q_t_sh0_cells q_t_sh1 q_t_sh1_cells q_t_sh2 q_t_sh2_cells q_t_sh3 q_t_sh3_cells t_traced t_lastFault t_sh_lane t_sh_size t_sh_cells)) (va_runS (As := [.int p_k]) (rest := []) ⟨hx, hb, hml, hown, hts⟩ (c_Tq_isSheet l D cI cJ cS p_k y1 h2 _) (va_cwS 1 hts gX8_put_X8_isSheet rfl rfl rfl (by decide +kernel) ⟨(Nat.le_of_ble_eq_true rfl), (Nat.le_of_ble_eq_true rfl)⟩) (pre_S hK hP hD [] rfl rfl) rfl rfl hl.1 rfl (lv_room (Nat.le_of_ble_eq_true rfl)) dX8_put_1 ⟨Nat.zero_le _, Nat.zero_le _⟩) hP hD hS hA [] [0, 1, 2, 3, 4, 5, 6, 7, 8, 9] [0, 1, 2, 3, 4, 5, 6, 7, 8, 9] rfl rfl rfl (by decide) rfl rfl (fun H locs hP hD hS => ?_)
  refine lv_if_ne (tgt := 13) hx hb dX8_put_4 (by decide) (fun c3 => ?_) (fun c3 => ?_)
  · have hM := (o_if hM).2 c3
    refine lv_aload_n hx hb dX8_put_13 rfl (lv_at hl 0 rfl) ?_
    refine va_get (ci := 7) (v := .ref q_t_sheets) (C := RX8) (T := TX8) (N := 8) hx hb hts iX8 hown hK.1 hP 0 rfl rfl 5 (Nat.le_of_ble_eq_true rfl) k0 (fun _ h9 => h9) rfl dX8_put_14 ?_
    refine lv_iload_n hx hb dX8_put_17 rfl (lv_at hl 1 rfl) ?_
    obtain ⟨h4, hM⟩ := o_ck hM
    refine va_aldq hx hb hK.1 hP 1 2 rfl rfl h4 dX8_put_18 ?_
    obtain ⟨j5, ej5⟩ : ∃ y : Nat, y = p_k.toNatClampNeg := ⟨_, rfl⟩
    have hM := o_lt hM j5 ej5
    have hj5 : j5 < 4 := by rw [ej5]; exact ck_lt h4
    rw [← ej5]
    rcases (show j5 = 0 ∨ j5 = 1 ∨ j5 = 2 ∨ j5 = 3 by omega) with rfl | rfl | rfl | rfl
    · refine W.eq (g2 := F0 m 19 ls [.ref q_t_sh0]) rfl ?_
      refine lv_astore (lv' := [(4, .ref q_t_sh0), (0, .ref q_t), (1, .int p_k), (2, .int p_i), (3, .int p_v)]) hx hb dX8_put_19 hl (Nat.le_of_ble_eq_true rfl) rfl (fun ls hl => ?_)
      refine lv_aload hx hb dX8_put_21 (lv_at hl 0 rfl) ?_
      obtain ⟨y6, h7, hM⟩ := o_bd hM
      refine af_i (ws2 := (w_Tq_put cI cJ cS q_t q_t_plan q_t_counter q_t_choices q_t_ringers q_t_readings q_t_sheets q_t_sh0 q_t_sh0_cells q_t_sh1 q_t_sh1_cells q_t_sh2 q_t_sh2_cells q_t_sh3 q_t_sh3_cells t_traced t_lastFault t_sh_lane t_sh_size t_sh_cells)) (va_runV (As := []) (rest := []) ⟨hx, hb, hml, hown, hts⟩ (c_Sh_hasNothing l D cI cJ cS q_t_sh0 q_t_sh0_cells (t_sh_lane 0) (t_sh_size 0) y6 h7 _) (cwV 0 hts gX8_put_X6_hasNothing rfl rfl rfl (by decide +kernel) ⟨(Nat.le_of_ble_eq_true rfl), (Nat.le_of_ble_eq_true rfl)⟩) (pre_V hK hP hD [2] rfl rfl rfl rfl) rfl rfl hl.1 rfl (lv_room (Nat.le_of_ble_eq_true rfl)) dX8_put_23 ⟨Nat.zero_le _, Nat.zero_le _⟩) hP hD hS hA [2] [0, 1, 3, 4, 5, 6, 7, 8, 9] [0, 1, 9, 2, 3, 4, 5, 6, 7, 8] rfl rfl rfl (by decide) rfl rfl (fun H locs hP hD hS => ?_)
      refine lv_if_eq (tgt := 35) hx hb dX8_put_26 (by decide) (fun c8 => ?_) (fun c8 => ?_)
      · have hM := (o_if hM).1 c8
        refine lv_aload hx hb dX8_put_35 (lv_at hl 0 rfl) ?_
        refine lv_iload_n hx hb dX8_put_37 rfl (lv_at hl 3 rfl) ?_
        refine lv_iconst (v := 1) hx hb dX8_put_38 (by decide) ?_
        obtain ⟨y9, h10, hM⟩ := o_bd hM
        refine af_i (ws2 := (w_Tq_put cI cJ cS q_t q_t_plan q_t_counter q_t_choices q_t_ringers q_t_readings q_t_sheets q_t_sh0 q_t_sh0_cells q_t_sh1 q_t_sh1_cells q_t_sh2 q_t_sh2_cells q_t_sh3 q_t_sh3_cells t_traced t_lastFault t_sh_lane t_sh_size t_sh_cells)) (va_runV (As := [.int p_i, .int 1]) (rest := []) ⟨hx, hb, hml, hown, hts⟩ (c_Sh_holds l D cI cJ cS q_t_sh0 q_t_sh0_cells (t_sh_lane 0) (t_sh_size 0) p_i 1 y9 h10 _) (cwV 2 hts gX8_put_X6_holds rfl rfl rfl (by decide +kernel) ⟨(Nat.le_of_ble_eq_true rfl), (Nat.le_of_ble_eq_true rfl)⟩) (pre_V hK hP hD [2] rfl rfl rfl rfl) rfl rfl hl.1 rfl (lv_room (Nat.le_of_ble_eq_true rfl)) dX8_put_39 ⟨Nat.zero_le _, Nat.zero_le _⟩) hP hD hS hA [2] [0, 1, 3, 4, 5, 6, 7, 8, 9] [0, 1, 9, 2, 3, 4, 5, 6, 7, 8] rfl rfl rfl (by decide) rfl rfl (fun H locs hP hD hS => ?_)
        refine lv_if_ne (tgt := 51) hx hb dX8_put_42 (by decide) (fun c11 => ?_) (fun c11 => ?_)
        · have hM := (o_if hM).2 c11
          refine lv_aload hx hb dX8_put_51 (lv_at hl 0 rfl) ?_
          refine lv_iload_n hx hb dX8_put_53 rfl (lv_at hl 3 rfl) ?_
          refine lv_iload_n hx hb dX8_put_54 rfl (lv_at hl 4 rfl) ?_
          obtain ⟨y12, h13, hM⟩ := o_bd hM
          refine af_v (ws2 := (w_Tq_put cI cJ cS q_t q_t_plan q_t_counter q_t_choices q_t_ringers q_t_readings q_t_sheets q_t_sh0 q_t_sh0_cells q_t_sh1 q_t_sh1_cells q_t_sh2 q_t_sh2_cells q_t_sh3 q_t_sh3_cells t_traced t_lastFault t_sh_lane t_sh_size (va_up t_sh_cells 0 y12))) (va_runV (As := [.int p_i, .int p_v]) (rest := []) ⟨hx, hb, hml, hown, hts⟩ (c_Sh_write l D cI cJ cS q_t_sh0 q_t_sh0_cells (t_sh_lane 0) (t_sh_size 0) (t_sh_cells 0) p_i p_v y12 h13 _) (cwV 2 hts gX8_put_X6_write rfl rfl rfl (by decide +kernel) ⟨(Nat.le_of_ble_eq_true rfl), (Nat.le_of_ble_eq_true rfl)⟩) (pre_V hK hP hD [2, 3] rfl rfl rfl rfl) rfl rfl hl.1 rfl (lv_room (Nat.le_of_ble_eq_true rfl)) dX8_put_55 ⟨Nat.zero_le _, Nat.zero_le _⟩) hP hD hS hA [2, 3] [0, 1, 4, 5, 6, 7, 8, 9] [0, 1, 8, 9, 2, 3, 4, 5, 6, 7] rfl rfl rfl (by decide) rfl rfl (fun H locs hP hD hS => ?_)
          refine lv_aload_n hx hb dX8_put_58 rfl (lv_at hl 1 rfl) ?_
          refine lv_iconst (v := 1) hx hb dX8_put_59 (by decide) ?_
          obtain ⟨y14, h15, hM⟩ := o_bd hM
          refine af_i (ws2 := (w_Tq_put cI cJ cS q_t q_t_plan q_t_counter q_t_choices q_t_ringers q_t_readings q_t_sheets q_t_sh0 q_t_sh0_cells q_t_sh1 q_t_sh1_cells q_t_sh2 q_t_sh2_cells q_t_sh3 q_t_sh3_cells t_traced y14.2 t_sh_lane t_sh_size (va_up t_sh_cells 0 y12))) (va_runV (As := [.int 1]) (rest := []) ⟨hx, hb, hml, hown, hts⟩ (c_Tq_faultless l D cI cJ cS q_t q_t_plan q_t_counter q_t_choices q_t_ringers q_t_readings q_t_sheets t_traced t_lastFault 1 y14 h15 _) (cwV 1 hts gX8_put_X8_faultless rfl rfl rfl (by decide +kernel) ⟨(Nat.le_of_ble_eq_true rfl), (Nat.le_of_ble_eq_true rfl)⟩) (pre_V hK hP hD [0] rfl rfl rfl rfl) rfl rfl hl.1 rfl (lv_room (Nat.le_of_ble_eq_true rfl)) dX8_put_60 ⟨Nat.zero_le _, Nat.zero_le _⟩) hP hD hS hA [0] [1, 2, 3, 4, 5, 6, 7, 8, 9] [9, 0, 1, 2, 3, 4, 5, 6, 7, 8] rfl rfl rfl (by decide) rfl rfl (fun H locs hP hD hS => ?_)
          have hM := (Option.some.inj hM)
          subst hM
          exact rt_i hx hb hr hlocks hP hD hS dX8_put_63
        · have hM := (o_if hM).1 c11
          refine lv_aload_n hx hb dX8_put_45 rfl (lv_at hl 1 rfl) ?_
          refine lv_iconst (v := 3) hx hb dX8_put_46 (by decide) ?_
          obtain ⟨y16, h17, hM⟩ := o_bd hM
          refine af_i (ws2 := (w_Tq_put cI cJ cS q_t q_t_plan q_t_counter q_t_choices q_t_ringers q_t_readings q_t_sheets q_t_sh0 q_t_sh0_cells q_t_sh1 q_t_sh1_cells q_t_sh2 q_t_sh2_cells q_t_sh3 q_t_sh3_cells t_traced y16.2 t_sh_lane t_sh_size t_sh_cells)) (va_runV (As := [.int 3]) (rest := []) ⟨hx, hb, hml, hown, hts⟩ (c_Tq_faulted l D cI cJ cS q_t q_t_plan q_t_counter q_t_choices q_t_ringers q_t_readings q_t_sheets t_traced t_lastFault 3 y16 h17 _) (cwV 1 hts gX8_put_X8_faulted rfl rfl rfl (by decide +kernel) ⟨(Nat.le_of_ble_eq_true rfl), (Nat.le_of_ble_eq_true rfl)⟩) (pre_V hK hP hD [0] rfl rfl rfl rfl) rfl rfl hl.1 rfl (lv_room (Nat.le_of_ble_eq_true rfl)) dX8_put_47 ⟨Nat.zero_le _, Nat.zero_le _⟩) hP hD hS hA [0] [1, 2, 3, 4, 5, 6, 7, 8, 9] [9, 0, 1, 2, 3, 4, 5, 6, 7, 8] rfl rfl rfl (by decide) rfl rfl (fun H locs hP hD hS => ?_)
          have hM := (Option.some.inj hM)
          subst hM
          exact rt_i hx hb hr hlocks hP hD hS dX8_put_50
      · have hM := (o_if hM).2 c8
        refine lv_aload_n hx hb dX8_put_29 rfl (lv_at hl 1 rfl) ?_
        refine lv_iconst (v := 1) hx hb dX8_put_30 (by decide) ?_
        obtain ⟨y18, h19, hM⟩ := o_bd hM
        refine af_i (ws2 := (w_Tq_put cI cJ cS q_t q_t_plan q_t_counter q_t_choices q_t_ringers q_t_readings q_t_sheets q_t_sh0 q_t_sh0_cells q_t_sh1 q_t_sh1_cells q_t_sh2 q_t_sh2_cells q_t_sh3 q_t_sh3_cells t_traced y18.2 t_sh_lane t_sh_size t_sh_cells)) (va_runV (As := [.int 1]) (rest := []) ⟨hx, hb, hml, hown, hts⟩ (c_Tq_faulted l D cI cJ cS q_t q_t_plan q_t_counter q_t_choices q_t_ringers q_t_readings q_t_sheets t_traced t_lastFault 1 y18 h19 _) (cwV 1 hts gX8_put_X8_faulted rfl rfl rfl (by decide +kernel) ⟨(Nat.le_of_ble_eq_true rfl), (Nat.le_of_ble_eq_true rfl)⟩) (pre_V hK hP hD [0] rfl rfl rfl rfl) rfl rfl hl.1 rfl (lv_room (Nat.le_of_ble_eq_true rfl)) dX8_put_31 ⟨Nat.zero_le _, Nat.zero_le _⟩) hP hD hS hA [0] [1, 2, 3, 4, 5, 6, 7, 8, 9] [9, 0, 1, 2, 3, 4, 5, 6, 7, 8] rfl rfl rfl (by decide) rfl rfl (fun H locs hP hD hS => ?_)
        have hM := (Option.some.inj hM)
        subst hM
        exact rt_i hx hb hr hlocks hP hD hS dX8_put_34
    · refine W.eq (g2 := F0 m 19 ls [.ref q_t_sh1]) rfl ?_
      refine lv_astore (lv' := [(4, .ref q_t_sh1), (0, .ref q_t), (1, .int p_k), (2, .int p_i), (3, .int p_v)]) hx hb dX8_put_19 hl (Nat.le_of_ble_eq_true rfl) rfl (fun ls hl => ?_)
      refine lv_aload hx hb dX8_put_21 (lv_at hl 0 rfl) ?_
      obtain ⟨y6, h7, hM⟩ := o_bd hM
      refine af_i (ws2 := (w_Tq_put cI cJ cS q_t q_t_plan q_t_counter q_t_choices q_t_ringers q_t_readings q_t_sheets q_t_sh0 q_t_sh0_cells q_t_sh1 q_t_sh1_cells q_t_sh2 q_t_sh2_cells q_t_sh3 q_t_sh3_cells t_traced t_lastFault t_sh_lane t_sh_size t_sh_cells)) (va_runV (As := []) (rest := []) ⟨hx, hb, hml, hown, hts⟩ (c_Sh_hasNothing l D cI cJ cS q_t_sh1 q_t_sh1_cells (t_sh_lane 1) (t_sh_size 1) y6 h7 _) (cwV 0 hts gX8_put_X6_hasNothing rfl rfl rfl (by decide +kernel) ⟨(Nat.le_of_ble_eq_true rfl), (Nat.le_of_ble_eq_true rfl)⟩) (pre_V hK hP hD [4] rfl rfl rfl rfl) rfl rfl hl.1 rfl (lv_room (Nat.le_of_ble_eq_true rfl)) dX8_put_23 ⟨Nat.zero_le _, Nat.zero_le _⟩) hP hD hS hA [4] [0, 1, 2, 3, 5, 6, 7, 8, 9] [0, 1, 2, 3, 9, 4, 5, 6, 7, 8] rfl rfl rfl (by decide) rfl rfl (fun H locs hP hD hS => ?_)
      refine lv_if_eq (tgt := 35) hx hb dX8_put_26 (by decide) (fun c8 => ?_) (fun c8 => ?_)
      · have hM := (o_if hM).1 c8
        refine lv_aload hx hb dX8_put_35 (lv_at hl 0 rfl) ?_
        refine lv_iload_n hx hb dX8_put_37 rfl (lv_at hl 3 rfl) ?_
        refine lv_iconst (v := 1) hx hb dX8_put_38 (by decide) ?_
        obtain ⟨y9, h10, hM⟩ := o_bd hM
        refine af_i (ws2 := (w_Tq_put cI cJ cS q_t q_t_plan q_t_counter q_t_choices q_t_ringers q_t_readings q_t_sheets q_t_sh0 q_t_sh0_cells q_t_sh1 q_t_sh1_cells q_t_sh2 q_t_sh2_cells q_t_sh3 q_t_sh3_cells t_traced t_lastFault t_sh_lane t_sh_size t_sh_cells)) (va_runV (As := [.int p_i, .int 1]) (rest := []) ⟨hx, hb, hml, hown, hts⟩ (c_Sh_holds l D cI cJ cS q_t_sh1 q_t_sh1_cells (t_sh_lane 1) (t_sh_size 1) p_i 1 y9 h10 _) (cwV 2 hts gX8_put_X6_holds rfl rfl rfl (by decide +kernel) ⟨(Nat.le_of_ble_eq_true rfl), (Nat.le_of_ble_eq_true rfl)⟩) (pre_V hK hP hD [4] rfl rfl rfl rfl) rfl rfl hl.1 rfl (lv_room (Nat.le_of_ble_eq_true rfl)) dX8_put_39 ⟨Nat.zero_le _, Nat.zero_le _⟩) hP hD hS hA [4] [0, 1, 2, 3, 5, 6, 7, 8, 9] [0, 1, 2, 3, 9, 4, 5, 6, 7, 8] rfl rfl rfl (by decide) rfl rfl (fun H locs hP hD hS => ?_)
        refine lv_if_ne (tgt := 51) hx hb dX8_put_42 (by decide) (fun c11 => ?_) (fun c11 => ?_)
        · have hM := (o_if hM).2 c11
          refine lv_aload hx hb dX8_put_51 (lv_at hl 0 rfl) ?_
          refine lv_iload_n hx hb dX8_put_53 rfl (lv_at hl 3 rfl) ?_
          refine lv_iload_n hx hb dX8_put_54 rfl (lv_at hl 4 rfl) ?_
          obtain ⟨y12, h13, hM⟩ := o_bd hM
          refine af_v (ws2 := (w_Tq_put cI cJ cS q_t q_t_plan q_t_counter q_t_choices q_t_ringers q_t_readings q_t_sheets q_t_sh0 q_t_sh0_cells q_t_sh1 q_t_sh1_cells q_t_sh2 q_t_sh2_cells q_t_sh3 q_t_sh3_cells t_traced t_lastFault t_sh_lane t_sh_size (va_up t_sh_cells 1 y12))) (va_runV (As := [.int p_i, .int p_v]) (rest := []) ⟨hx, hb, hml, hown, hts⟩ (c_Sh_write l D cI cJ cS q_t_sh1 q_t_sh1_cells (t_sh_lane 1) (t_sh_size 1) (t_sh_cells 1) p_i p_v y12 h13 _) (cwV 2 hts gX8_put_X6_write rfl rfl rfl (by decide +kernel) ⟨(Nat.le_of_ble_eq_true rfl), (Nat.le_of_ble_eq_true rfl)⟩) (pre_V hK hP hD [4, 5] rfl rfl rfl rfl) rfl rfl hl.1 rfl (lv_room (Nat.le_of_ble_eq_true rfl)) dX8_put_55 ⟨Nat.zero_le _, Nat.zero_le _⟩) hP hD hS hA [4, 5] [0, 1, 2, 3, 6, 7, 8, 9] [0, 1, 2, 3, 8, 9, 4, 5, 6, 7] rfl rfl rfl (by decide) rfl rfl (fun H locs hP hD hS => ?_)
          refine lv_aload_n hx hb dX8_put_58 rfl (lv_at hl 1 rfl) ?_
          refine lv_iconst (v := 1) hx hb dX8_put_59 (by decide) ?_
          obtain ⟨y14, h15, hM⟩ := o_bd hM
          refine af_i (ws2 := (w_Tq_put cI cJ cS q_t q_t_plan q_t_counter q_t_choices q_t_ringers q_t_readings q_t_sheets q_t_sh0 q_t_sh0_cells q_t_sh1 q_t_sh1_cells q_t_sh2 q_t_sh2_cells q_t_sh3 q_t_sh3_cells t_traced y14.2 t_sh_lane t_sh_size (va_up t_sh_cells 1 y12))) (va_runV (As := [.int 1]) (rest := []) ⟨hx, hb, hml, hown, hts⟩ (c_Tq_faultless l D cI cJ cS q_t q_t_plan q_t_counter q_t_choices q_t_ringers q_t_readings q_t_sheets t_traced t_lastFault 1 y14 h15 _) (cwV 1 hts gX8_put_X8_faultless rfl rfl rfl (by decide +kernel) ⟨(Nat.le_of_ble_eq_true rfl), (Nat.le_of_ble_eq_true rfl)⟩) (pre_V hK hP hD [0] rfl rfl rfl rfl) rfl rfl hl.1 rfl (lv_room (Nat.le_of_ble_eq_true rfl)) dX8_put_60 ⟨Nat.zero_le _, Nat.zero_le _⟩) hP hD hS hA [0] [1, 2, 3, 4, 5, 6, 7, 8, 9] [9, 0, 1, 2, 3, 4, 5, 6, 7, 8] rfl rfl rfl (by decide) rfl rfl (fun H locs hP hD hS => ?_)
          have hM := (Option.some.inj hM)
          subst hM
          exact rt_i hx hb hr hlocks hP hD hS dX8_put_63
        · have hM := (o_if hM).1 c11
          refine lv_aload_n hx hb dX8_put_45 rfl (lv_at hl 1 rfl) ?_
          refine lv_iconst (v := 3) hx hb dX8_put_46 (by decide) ?_
          obtain ⟨y16, h17, hM⟩ := o_bd hM
          refine af_i (ws2 := (w_Tq_put cI cJ cS q_t q_t_plan q_t_counter q_t_choices q_t_ringers q_t_readings q_t_sheets q_t_sh0 q_t_sh0_cells q_t_sh1 q_t_sh1_cells q_t_sh2 q_t_sh2_cells q_t_sh3 q_t_sh3_cells t_traced y16.2 t_sh_lane t_sh_size t_sh_cells)) (va_runV (As := [.int 3]) (rest := []) ⟨hx, hb, hml, hown, hts⟩ (c_Tq_faulted l D cI cJ cS q_t q_t_plan q_t_counter q_t_choices q_t_ringers q_t_readings q_t_sheets t_traced t_lastFault 3 y16 h17 _) (cwV 1 hts gX8_put_X8_faulted rfl rfl rfl (by decide +kernel) ⟨(Nat.le_of_ble_eq_true rfl), (Nat.le_of_ble_eq_true rfl)⟩) (pre_V hK hP hD [0] rfl rfl rfl rfl) rfl rfl hl.1 rfl (lv_room (Nat.le_of_ble_eq_true rfl)) dX8_put_47 ⟨Nat.zero_le _, Nat.zero_le _⟩) hP hD hS hA [0] [1, 2, 3, 4, 5, 6, 7, 8, 9] [9, 0, 1, 2, 3, 4, 5, 6, 7, 8] rfl rfl rfl (by decide) rfl rfl (fun H locs hP hD hS => ?_)
          have hM := (Option.some.inj hM)
          subst hM
          exact rt_i hx hb hr hlocks hP hD hS dX8_put_50
      · have hM := (o_if hM).2 c8
        refine lv_aload_n hx hb dX8_put_29 rfl (lv_at hl 1 rfl) ?_
        refine lv_iconst (v := 1) hx hb dX8_put_30 (by decide) ?_
        obtain ⟨y18, h19, hM⟩ := o_bd hM
        refine af_i (ws2 := (w_Tq_put cI cJ cS q_t q_t_plan q_t_counter q_t_choices q_t_ringers q_t_readings q_t_sheets q_t_sh0 q_t_sh0_cells q_t_sh1 q_t_sh1_cells q_t_sh2 q_t_sh2_cells q_t_sh3 q_t_sh3_cells t_traced y18.2 t_sh_lane t_sh_size t_sh_cells)) (va_runV (As := [.int 1]) (rest := []) ⟨hx, hb, hml, hown, hts⟩ (c_Tq_faulted l D cI cJ cS q_t q_t_plan q_t_counter q_t_choices q_t_ringers q_t_readings q_t_sheets t_traced t_lastFault 1 y18 h19 _) (cwV 1 hts gX8_put_X8_faulted rfl rfl rfl (by decide +kernel) ⟨(Nat.le_of_ble_eq_true rfl), (Nat.le_of_ble_eq_true rfl)⟩) (pre_V hK hP hD [0] rfl rfl rfl rfl) rfl rfl hl.1 rfl (lv_room (Nat.le_of_ble_eq_true rfl)) dX8_put_31 ⟨Nat.zero_le _, Nat.zero_le _⟩) hP hD hS hA [0] [1, 2, 3, 4, 5, 6, 7, 8, 9] [9, 0, 1, 2, 3, 4, 5, 6, 7, 8] rfl rfl rfl (by decide) rfl rfl (fun H locs hP hD hS => ?_)
        have hM := (Option.some.inj hM)
        subst hM
        exact rt_i hx hb hr hlocks hP hD hS dX8_put_34
    · refine W.eq (g2 := F0 m 19 ls [.ref q_t_sh2]) rfl ?_
      refine lv_astore (lv' := [(4, .ref q_t_sh2), (0, .ref q_t), (1, .int p_k), (2, .int p_i), (3, .int p_v)]) hx hb dX8_put_19 hl (Nat.le_of_ble_eq_true rfl) rfl (fun ls hl => ?_)
      refine lv_aload hx hb dX8_put_21 (lv_at hl 0 rfl) ?_
      obtain ⟨y6, h7, hM⟩ := o_bd hM
      refine af_i (ws2 := (w_Tq_put cI cJ cS q_t q_t_plan q_t_counter q_t_choices q_t_ringers q_t_readings q_t_sheets q_t_sh0 q_t_sh0_cells q_t_sh1 q_t_sh1_cells q_t_sh2 q_t_sh2_cells q_t_sh3 q_t_sh3_cells t_traced t_lastFault t_sh_lane t_sh_size t_sh_cells)) (va_runV (As := []) (rest := []) ⟨hx, hb, hml, hown, hts⟩ (c_Sh_hasNothing l D cI cJ cS q_t_sh2 q_t_sh2_cells (t_sh_lane 2) (t_sh_size 2) y6 h7 _) (cwV 0 hts gX8_put_X6_hasNothing rfl rfl rfl (by decide +kernel) ⟨(Nat.le_of_ble_eq_true rfl), (Nat.le_of_ble_eq_true rfl)⟩) (pre_V hK hP hD [6] rfl rfl rfl rfl) rfl rfl hl.1 rfl (lv_room (Nat.le_of_ble_eq_true rfl)) dX8_put_23 ⟨Nat.zero_le _, Nat.zero_le _⟩) hP hD hS hA [6] [0, 1, 2, 3, 4, 5, 7, 8, 9] [0, 1, 2, 3, 4, 5, 9, 6, 7, 8] rfl rfl rfl (by decide) rfl rfl (fun H locs hP hD hS => ?_)
      refine lv_if_eq (tgt := 35) hx hb dX8_put_26 (by decide) (fun c8 => ?_) (fun c8 => ?_)
      · have hM := (o_if hM).1 c8
        refine lv_aload hx hb dX8_put_35 (lv_at hl 0 rfl) ?_
        refine lv_iload_n hx hb dX8_put_37 rfl (lv_at hl 3 rfl) ?_
        refine lv_iconst (v := 1) hx hb dX8_put_38 (by decide) ?_
        obtain ⟨y9, h10, hM⟩ := o_bd hM
        refine af_i (ws2 := (w_Tq_put cI cJ cS q_t q_t_plan q_t_counter q_t_choices q_t_ringers q_t_readings q_t_sheets q_t_sh0 q_t_sh0_cells q_t_sh1 q_t_sh1_cells q_t_sh2 q_t_sh2_cells q_t_sh3 q_t_sh3_cells t_traced t_lastFault t_sh_lane t_sh_size t_sh_cells)) (va_runV (As := [.int p_i, .int 1]) (rest := []) ⟨hx, hb, hml, hown, hts⟩ (c_Sh_holds l D cI cJ cS q_t_sh2 q_t_sh2_cells (t_sh_lane 2) (t_sh_size 2) p_i 1 y9 h10 _) (cwV 2 hts gX8_put_X6_holds rfl rfl rfl (by decide +kernel) ⟨(Nat.le_of_ble_eq_true rfl), (Nat.le_of_ble_eq_true rfl)⟩) (pre_V hK hP hD [6] rfl rfl rfl rfl) rfl rfl hl.1 rfl (lv_room (Nat.le_of_ble_eq_true rfl)) dX8_put_39 ⟨Nat.zero_le _, Nat.zero_le _⟩) hP hD hS hA [6] [0, 1, 2, 3, 4, 5, 7, 8, 9] [0, 1, 2, 3, 4, 5, 9, 6, 7, 8] rfl rfl rfl (by decide) rfl rfl (fun H locs hP hD hS => ?_)
        refine lv_if_ne (tgt := 51) hx hb dX8_put_42 (by decide) (fun c11 => ?_) (fun c11 => ?_)
        · have hM := (o_if hM).2 c11
          refine lv_aload hx hb dX8_put_51 (lv_at hl 0 rfl) ?_
          refine lv_iload_n hx hb dX8_put_53 rfl (lv_at hl 3 rfl) ?_
          refine lv_iload_n hx hb dX8_put_54 rfl (lv_at hl 4 rfl) ?_
          obtain ⟨y12, h13, hM⟩ := o_bd hM
          refine af_v (ws2 := (w_Tq_put cI cJ cS q_t q_t_plan q_t_counter q_t_choices q_t_ringers q_t_readings q_t_sheets q_t_sh0 q_t_sh0_cells q_t_sh1 q_t_sh1_cells q_t_sh2 q_t_sh2_cells q_t_sh3 q_t_sh3_cells t_traced t_lastFault t_sh_lane t_sh_size (va_up t_sh_cells 2 y12))) (va_runV (As := [.int p_i, .int p_v]) (rest := []) ⟨hx, hb, hml, hown, hts⟩ (c_Sh_write l D cI cJ cS q_t_sh2 q_t_sh2_cells (t_sh_lane 2) (t_sh_size 2) (t_sh_cells 2) p_i p_v y12 h13 _) (cwV 2 hts gX8_put_X6_write rfl rfl rfl (by decide +kernel) ⟨(Nat.le_of_ble_eq_true rfl), (Nat.le_of_ble_eq_true rfl)⟩) (pre_V hK hP hD [6, 7] rfl rfl rfl rfl) rfl rfl hl.1 rfl (lv_room (Nat.le_of_ble_eq_true rfl)) dX8_put_55 ⟨Nat.zero_le _, Nat.zero_le _⟩) hP hD hS hA [6, 7] [0, 1, 2, 3, 4, 5, 8, 9] [0, 1, 2, 3, 4, 5, 8, 9, 6, 7] rfl rfl rfl (by decide) rfl rfl (fun H locs hP hD hS => ?_)
          refine lv_aload_n hx hb dX8_put_58 rfl (lv_at hl 1 rfl) ?_
          refine lv_iconst (v := 1) hx hb dX8_put_59 (by decide) ?_
          obtain ⟨y14, h15, hM⟩ := o_bd hM
          refine af_i (ws2 := (w_Tq_put cI cJ cS q_t q_t_plan q_t_counter q_t_choices q_t_ringers q_t_readings q_t_sheets q_t_sh0 q_t_sh0_cells q_t_sh1 q_t_sh1_cells q_t_sh2 q_t_sh2_cells q_t_sh3 q_t_sh3_cells t_traced y14.2 t_sh_lane t_sh_size (va_up t_sh_cells 2 y12))) (va_runV (As := [.int 1]) (rest := []) ⟨hx, hb, hml, hown, hts⟩ (c_Tq_faultless l D cI cJ cS q_t q_t_plan q_t_counter q_t_choices q_t_ringers q_t_readings q_t_sheets t_traced t_lastFault 1 y14 h15 _) (cwV 1 hts gX8_put_X8_faultless rfl rfl rfl (by decide +kernel) ⟨(Nat.le_of_ble_eq_true rfl), (Nat.le_of_ble_eq_true rfl)⟩) (pre_V hK hP hD [0] rfl rfl rfl rfl) rfl rfl hl.1 rfl (lv_room (Nat.le_of_ble_eq_true rfl)) dX8_put_60 ⟨Nat.zero_le _, Nat.zero_le _⟩) hP hD hS hA [0] [1, 2, 3, 4, 5, 6, 7, 8, 9] [9, 0, 1, 2, 3, 4, 5, 6, 7, 8] rfl rfl rfl (by decide) rfl rfl (fun H locs hP hD hS => ?_)
          have hM := (Option.some.inj hM)
          subst hM
          exact rt_i hx hb hr hlocks hP hD hS dX8_put_63
        · have hM := (o_if hM).1 c11
          refine lv_aload_n hx hb dX8_put_45 rfl (lv_at hl 1 rfl) ?_
          refine lv_iconst (v := 3) hx hb dX8_put_46 (by decide) ?_
          obtain ⟨y16, h17, hM⟩ := o_bd hM
          refine af_i (ws2 := (w_Tq_put cI cJ cS q_t q_t_plan q_t_counter q_t_choices q_t_ringers q_t_readings q_t_sheets q_t_sh0 q_t_sh0_cells q_t_sh1 q_t_sh1_cells q_t_sh2 q_t_sh2_cells q_t_sh3 q_t_sh3_cells t_traced y16.2 t_sh_lane t_sh_size t_sh_cells)) (va_runV (As := [.int 3]) (rest := []) ⟨hx, hb, hml, hown, hts⟩ (c_Tq_faulted l D cI cJ cS q_t q_t_plan q_t_counter q_t_choices q_t_ringers q_t_readings q_t_sheets t_traced t_lastFault 3 y16 h17 _) (cwV 1 hts gX8_put_X8_faulted rfl rfl rfl (by decide +kernel) ⟨(Nat.le_of_ble_eq_true rfl), (Nat.le_of_ble_eq_true rfl)⟩) (pre_V hK hP hD [0] rfl rfl rfl rfl) rfl rfl hl.1 rfl (lv_room (Nat.le_of_ble_eq_true rfl)) dX8_put_47 ⟨Nat.zero_le _, Nat.zero_le _⟩) hP hD hS hA [0] [1, 2, 3, 4, 5, 6, 7, 8, 9] [9, 0, 1, 2, 3, 4, 5, 6, 7, 8] rfl rfl rfl (by decide) rfl rfl (fun H locs hP hD hS => ?_)
          have hM := (Option.some.inj hM)
          subst hM
          exact rt_i hx hb hr hlocks hP hD hS dX8_put_50
      · have hM := (o_if hM).2 c8
        refine lv_aload_n hx hb dX8_put_29 rfl (lv_at hl 1 rfl) ?_
        refine lv_iconst (v := 1) hx hb dX8_put_30 (by decide) ?_
        obtain ⟨y18, h19, hM⟩ := o_bd hM
        refine af_i (ws2 := (w_Tq_put cI cJ cS q_t q_t_plan q_t_counter q_t_choices q_t_ringers q_t_readings q_t_sheets q_t_sh0 q_t_sh0_cells q_t_sh1 q_t_sh1_cells q_t_sh2 q_t_sh2_cells q_t_sh3 q_t_sh3_cells t_traced y18.2 t_sh_lane t_sh_size t_sh_cells)) (va_runV (As := [.int 1]) (rest := []) ⟨hx, hb, hml, hown, hts⟩ (c_Tq_faulted l D cI cJ cS q_t q_t_plan q_t_counter q_t_choices q_t_ringers q_t_readings q_t_sheets t_traced t_lastFault 1 y18 h19 _) (cwV 1 hts gX8_put_X8_faulted rfl rfl rfl (by decide +kernel) ⟨(Nat.le_of_ble_eq_true rfl), (Nat.le_of_ble_eq_true rfl)⟩) (pre_V hK hP hD [0] rfl rfl rfl rfl) rfl rfl hl.1 rfl (lv_room (Nat.le_of_ble_eq_true rfl)) dX8_put_31 ⟨Nat.zero_le _, Nat.zero_le _⟩) hP hD hS hA [0] [1, 2, 3, 4, 5, 6, 7, 8, 9] [9, 0, 1, 2, 3, 4, 5, 6, 7, 8] rfl rfl rfl (by decide) rfl rfl (fun H locs hP hD hS => ?_)
        have hM := (Option.some.inj hM)
        subst hM
        exact rt_i hx hb hr hlocks hP hD hS dX8_put_34
    · refine W.eq (g2 := F0 m 19 ls [.ref q_t_sh3]) rfl ?_
      refine lv_astore (lv' := [(4, .ref q_t_sh3), (0, .ref q_t), (1, .int p_k), (2, .int p_i), (3, .int p_v)]) hx hb dX8_put_19 hl (Nat.le_of_ble_eq_true rfl) rfl (fun ls hl => ?_)
      refine lv_aload hx hb dX8_put_21 (lv_at hl 0 rfl) ?_
      obtain ⟨y6, h7, hM⟩ := o_bd hM
      refine af_i (ws2 := (w_Tq_put cI cJ cS q_t q_t_plan q_t_counter q_t_choices q_t_ringers q_t_readings q_t_sheets q_t_sh0 q_t_sh0_cells q_t_sh1 q_t_sh1_cells q_t_sh2 q_t_sh2_cells q_t_sh3 q_t_sh3_cells t_traced t_lastFault t_sh_lane t_sh_size t_sh_cells)) (va_runV (As := []) (rest := []) ⟨hx, hb, hml, hown, hts⟩ (c_Sh_hasNothing l D cI cJ cS q_t_sh3 q_t_sh3_cells (t_sh_lane 3) (t_sh_size 3) y6 h7 _) (cwV 0 hts gX8_put_X6_hasNothing rfl rfl rfl (by decide +kernel) ⟨(Nat.le_of_ble_eq_true rfl), (Nat.le_of_ble_eq_true rfl)⟩) (pre_V hK hP hD [8] rfl rfl rfl rfl) rfl rfl hl.1 rfl (lv_room (Nat.le_of_ble_eq_true rfl)) dX8_put_23 ⟨Nat.zero_le _, Nat.zero_le _⟩) hP hD hS hA [8] [0, 1, 2, 3, 4, 5, 6, 7, 9] [0, 1, 2, 3, 4, 5, 6, 7, 9, 8] rfl rfl rfl (by decide) rfl rfl (fun H locs hP hD hS => ?_)
      refine lv_if_eq (tgt := 35) hx hb dX8_put_26 (by decide) (fun c8 => ?_) (fun c8 => ?_)
      · have hM := (o_if hM).1 c8
        refine lv_aload hx hb dX8_put_35 (lv_at hl 0 rfl) ?_
        refine lv_iload_n hx hb dX8_put_37 rfl (lv_at hl 3 rfl) ?_
        refine lv_iconst (v := 1) hx hb dX8_put_38 (by decide) ?_
        obtain ⟨y9, h10, hM⟩ := o_bd hM
        refine af_i (ws2 := (w_Tq_put cI cJ cS q_t q_t_plan q_t_counter q_t_choices q_t_ringers q_t_readings q_t_sheets q_t_sh0 q_t_sh0_cells q_t_sh1 q_t_sh1_cells q_t_sh2 q_t_sh2_cells q_t_sh3 q_t_sh3_cells t_traced t_lastFault t_sh_lane t_sh_size t_sh_cells)) (va_runV (As := [.int p_i, .int 1]) (rest := []) ⟨hx, hb, hml, hown, hts⟩ (c_Sh_holds l D cI cJ cS q_t_sh3 q_t_sh3_cells (t_sh_lane 3) (t_sh_size 3) p_i 1 y9 h10 _) (cwV 2 hts gX8_put_X6_holds rfl rfl rfl (by decide +kernel) ⟨(Nat.le_of_ble_eq_true rfl), (Nat.le_of_ble_eq_true rfl)⟩) (pre_V hK hP hD [8] rfl rfl rfl rfl) rfl rfl hl.1 rfl (lv_room (Nat.le_of_ble_eq_true rfl)) dX8_put_39 ⟨Nat.zero_le _, Nat.zero_le _⟩) hP hD hS hA [8] [0, 1, 2, 3, 4, 5, 6, 7, 9] [0, 1, 2, 3, 4, 5, 6, 7, 9, 8] rfl rfl rfl (by decide) rfl rfl (fun H locs hP hD hS => ?_)
        refine lv_if_ne (tgt := 51) hx hb dX8_put_42 (by decide) (fun c11 => ?_) (fun c11 => ?_)
        · have hM := (o_if hM).2 c11
          refine lv_aload hx hb dX8_put_51 (lv_at hl 0 rfl) ?_
          refine lv_iload_n hx hb dX8_put_53 rfl (lv_at hl 3 rfl) ?_
          refine lv_iload_n hx hb dX8_put_54 rfl (lv_at hl 4 rfl) ?_
          obtain ⟨y12, h13, hM⟩ := o_bd hM
          refine af_v (ws2 := (w_Tq_put cI cJ cS q_t q_t_plan q_t_counter q_t_choices q_t_ringers q_t_readings q_t_sheets q_t_sh0 q_t_sh0_cells q_t_sh1 q_t_sh1_cells q_t_sh2 q_t_sh2_cells q_t_sh3 q_t_sh3_cells t_traced t_lastFault t_sh_lane t_sh_size (va_up t_sh_cells 3 y12))) (va_runV (As := [.int p_i, .int p_v]) (rest := []) ⟨hx, hb, hml, hown, hts⟩ (c_Sh_write l D cI cJ cS q_t_sh3 q_t_sh3_cells (t_sh_lane 3) (t_sh_size 3) (t_sh_cells 3) p_i p_v y12 h13 _) (cwV 2 hts gX8_put_X6_write rfl rfl rfl (by decide +kernel) ⟨(Nat.le_of_ble_eq_true rfl), (Nat.le_of_ble_eq_true rfl)⟩) (pre_V hK hP hD [8, 9] rfl rfl rfl rfl) rfl rfl hl.1 rfl (lv_room (Nat.le_of_ble_eq_true rfl)) dX8_put_55 ⟨Nat.zero_le _, Nat.zero_le _⟩) hP hD hS hA [8, 9] [0, 1, 2, 3, 4, 5, 6, 7] [0, 1, 2, 3, 4, 5, 6, 7, 8, 9] rfl rfl rfl (by decide) rfl rfl (fun H locs hP hD hS => ?_)
          refine lv_aload_n hx hb dX8_put_58 rfl (lv_at hl 1 rfl) ?_
          refine lv_iconst (v := 1) hx hb dX8_put_59 (by decide) ?_
          obtain ⟨y14, h15, hM⟩ := o_bd hM
          refine af_i (ws2 := (w_Tq_put cI cJ cS q_t q_t_plan q_t_counter q_t_choices q_t_ringers q_t_readings q_t_sheets q_t_sh0 q_t_sh0_cells q_t_sh1 q_t_sh1_cells q_t_sh2 q_t_sh2_cells q_t_sh3 q_t_sh3_cells t_traced y14.2 t_sh_lane t_sh_size (va_up t_sh_cells 3 y12))) (va_runV (As := [.int 1]) (rest := []) ⟨hx, hb, hml, hown, hts⟩ (c_Tq_faultless l D cI cJ cS q_t q_t_plan q_t_counter q_t_choices q_t_ringers q_t_readings q_t_sheets t_traced t_lastFault 1 y14 h15 _) (cwV 1 hts gX8_put_X8_faultless rfl rfl rfl (by decide +kernel) ⟨(Nat.le_of_ble_eq_true rfl), (Nat.le_of_ble_eq_true rfl)⟩) (pre_V hK hP hD [0] rfl rfl rfl rfl) rfl rfl hl.1 rfl (lv_room (Nat.le_of_ble_eq_true rfl)) dX8_put_60 ⟨Nat.zero_le _, Nat.zero_le _⟩) hP hD hS hA [0] [1, 2, 3, 4, 5, 6, 7, 8, 9] [9, 0, 1, 2, 3, 4, 5, 6, 7, 8] rfl rfl rfl (by decide) rfl rfl (fun H locs hP hD hS => ?_)
          have hM := (Option.some.inj hM)
          subst hM
          exact rt_i hx hb hr hlocks hP hD hS dX8_put_63
        · have hM := (o_if hM).1 c11
          refine lv_aload_n hx hb dX8_put_45 rfl (lv_at hl 1 rfl) ?_
          refine lv_iconst (v := 3) hx hb dX8_put_46 (by decide) ?_
          obtain ⟨y16, h17, hM⟩ := o_bd hM
          refine af_i (ws2 := (w_Tq_put cI cJ cS q_t q_t_plan q_t_counter q_t_choices q_t_ringers q_t_readings q_t_sheets q_t_sh0 q_t_sh0_cells q_t_sh1 q_t_sh1_cells q_t_sh2 q_t_sh2_cells q_t_sh3 q_t_sh3_cells t_traced y16.2 t_sh_lane t_sh_size t_sh_cells)) (va_runV (As := [.int 3]) (rest := []) ⟨hx, hb, hml, hown, hts⟩ (c_Tq_faulted l D cI cJ cS q_t q_t_plan q_t_counter q_t_choices q_t_ringers q_t_readings q_t_sheets t_traced t_lastFault 3 y16 h17 _) (cwV 1 hts gX8_put_X8_faulted rfl rfl rfl (by decide +kernel) ⟨(Nat.le_of_ble_eq_true rfl), (Nat.le_of_ble_eq_true rfl)⟩) (pre_V hK hP hD [0] rfl rfl rfl rfl) rfl rfl hl.1 rfl (lv_room (Nat.le_of_ble_eq_true rfl)) dX8_put_47 ⟨Nat.zero_le _, Nat.zero_le _⟩) hP hD hS hA [0] [1, 2, 3, 4, 5, 6, 7, 8, 9] [9, 0, 1, 2, 3, 4, 5, 6, 7, 8] rfl rfl rfl (by decide) rfl rfl (fun H locs hP hD hS => ?_)
          have hM := (Option.some.inj hM)
          subst hM
          exact rt_i hx hb hr hlocks hP hD hS dX8_put_50
      · have hM := (o_if hM).2 c8
        refine lv_aload_n hx hb dX8_put_29 rfl (lv_at hl 1 rfl) ?_
        refine lv_iconst (v := 1) hx hb dX8_put_30 (by decide) ?_
        obtain ⟨y18, h19, hM⟩ := o_bd hM
        refine af_i (ws2 := (w_Tq_put cI cJ cS q_t q_t_plan q_t_counter q_t_choices q_t_ringers q_t_readings q_t_sheets q_t_sh0 q_t_sh0_cells q_t_sh1 q_t_sh1_cells q_t_sh2 q_t_sh2_cells q_t_sh3 q_t_sh3_cells t_traced y18.2 t_sh_lane t_sh_size t_sh_cells)) (va_runV (As := [.int 1]) (rest := []) ⟨hx, hb, hml, hown, hts⟩ (c_Tq_faulted l D cI cJ cS q_t q_t_plan q_t_counter q_t_choices q_t_ringers q_t_readings q_t_sheets t_traced t_lastFault 1 y18 h19 _) (cwV 1 hts gX8_put_X8_faulted rfl rfl rfl (by decide +kernel) ⟨(Nat.le_of_ble_eq_true rfl), (Nat.le_of_ble_eq_true rfl)⟩) (pre_V hK hP hD [0] rfl rfl rfl rfl) rfl rfl hl.1 rfl (lv_room (Nat.le_of_ble_eq_true rfl)) dX8_put_31 ⟨Nat.zero_le _, Nat.zero_le _⟩) hP hD hS hA [0] [1, 2, 3, 4, 5, 6, 7, 8, 9] [9, 0, 1, 2, 3, 4, 5, 6, 7, 8] rfl rfl rfl (by decide) rfl rfl (fun H locs hP hD hS => ?_)
        have hM := (Option.some.inj hM)
        subst hM
        exact rt_i hx hb hr hlocks hP hD hS dX8_put_34
  · have hM := (o_if hM).1 c3
    refine lv_aload_n hx hb dX8_put_7 rfl (lv_at hl 0 rfl) ?_
    refine lv_iconst (v := (-1)) hx hb dX8_put_8 (by decide) ?_
    obtain ⟨y20, h21, hM⟩ := o_bd hM
    refine af_i (ws2 := (w_Tq_put cI cJ cS q_t q_t_plan q_t_counter q_t_choices q_t_ringers q_t_readings q_t_sheets q_t_sh0 q_t_sh0_cells q_t_sh1 q_t_sh1_cells q_t_sh2 q_t_sh2_cells q_t_sh3 q_t_sh3_cells t_traced y20.2 t_sh_lane t_sh_size t_sh_cells)) (va_runV (As := [.int (-1)]) (rest := []) ⟨hx, hb, hml, hown, hts⟩ (c_Tq_faultless l D cI cJ cS q_t q_t_plan q_t_counter q_t_choices q_t_ringers q_t_readings q_t_sheets t_traced t_lastFault (-1) y20 h21 _) (cwV 1 hts gX8_put_X8_faultless rfl rfl rfl (by decide +kernel) ⟨(Nat.le_of_ble_eq_true rfl), (Nat.le_of_ble_eq_true rfl)⟩) (pre_V hK hP hD [0] rfl rfl rfl rfl) rfl rfl hl.1 rfl (lv_room (Nat.le_of_ble_eq_true rfl)) dX8_put_9 ⟨Nat.zero_le _, Nat.zero_le _⟩) hP hD hS hA [0] [1, 2, 3, 4, 5, 6, 7, 8, 9] [9, 0, 1, 2, 3, 4, 5, 6, 7, 8] rfl rfl rfl (by decide) rfl rfl (fun H locs hP hD hS => ?_)
    have hM := (Option.some.inj hM)
    subst hM
    exact rt_i hx hb hr hlocks hP hD hS dX8_put_12
/-! ===== TurnQueue.cell ===== -/
abbrev w_Tq_cell (cI cJ cS : ClassId) (q_t : Nat) (q_t_plan : Nat) (q_t_counter : Nat) (q_t_choices : Nat) (q_t_ringers : Nat) (q_t_readings : Nat) (q_t_sheets : Nat) (q_t_sh0 : Nat) (q_t_sh0_cells : Nat) (q_t_sh1 : Nat) (q_t_sh1_cells : Nat) (q_t_sh2 : Nat) (q_t_sh2_cells : Nat) (q_t_sh3 : Nat) (q_t_sh3_cells : Nat) (t_traced : Int32) (t_lastFault : Int32) (t_sh_lane : Nat → Int32) (t_sh_size : Nat → Int32) (t_sh_cells : Nat → Nat → Int32) : va_W := [(q_t, .inr (7, [.ref q_t_plan, .ref q_t_counter, .ref q_t_choices, .ref q_t_ringers, .ref q_t_readings, .ref q_t_sheets, .int t_traced, .int t_lastFault])), (q_t_sheets, arS cS 4 (a4 q_t_sh0 q_t_sh1 q_t_sh2 q_t_sh3)), (q_t_sh0, .inr (6, [.ref q_t_sh0_cells, .int (t_sh_lane 0), .int (t_sh_size 0)])), (q_t_sh0_cells, ar cI 60 (t_sh_cells 0)), (q_t_sh1, .inr (6, [.ref q_t_sh1_cells, .int (t_sh_lane 1), .int (t_sh_size 1)])), (q_t_sh1_cells, ar cI 60 (t_sh_cells 1)), (q_t_sh2, .inr (6, [.ref q_t_sh2_cells, .int (t_sh_lane 2), .int (t_sh_size 2)])), (q_t_sh2_cells, ar cI 60 (t_sh_cells 2)), (q_t_sh3, .inr (6, [.ref q_t_sh3_cells, .int (t_sh_lane 3), .int (t_sh_size 3)])), (q_t_sh3_cells, ar cI 60 (t_sh_cells 3))]
abbrev rm_Tq_cell : Room := { frames := 1, cells := 0, slots := 0, locals := 22 }
noncomputable def Tq_cell (p_k : Int32) (p_i : Int32) (p_lane : Int32) (t_sh_lane : Nat → Int32) (t_sh_size : Nat → Int32) (t_sh_cells : Nat → Nat → Int32) (t_lastFault : Int32) : Option (Int64 × Int32) :=
  (Tq_isSheet p_k).bind fun y1 =>
  if y1 = 0 then
    (Tq_lostBy 0 t_lastFault).bind fun y4 =>
    some (y4.1, y4.2)
  else
    (Tq_isLane p_lane).bind fun y6 =>
    if y6 = 0 then
      (Tq_lostBy 0 t_lastFault).bind fun y30 =>
      some (y30.1, y30.2)
    else
      if ck p_k 4 = true then
        lt p_k.toNatClampNeg fun j10 =>
        (Sh_isOfAnother p_lane (t_sh_lane j10)).bind fun y11 =>
        if y11 = 0 then
          (Sh_hasNothing (t_sh_lane j10)).bind fun y14 =>
          if y14 = 0 then
            (Sh_holds p_i 1 (t_sh_size j10)).bind fun y17 =>
            if y17 = 0 then
              (Tq_lostBy 3 t_lastFault).bind fun y24 =>
              some (y24.1, y24.2)
            else
              (Sh_at p_i (t_sh_size j10) (t_sh_cells j10)).bind fun y20 =>
              (Tq_faultless y20 t_lastFault).bind fun y22 =>
              some (y22.1.toInt64, y22.2)
          else
            (Tq_lostBy 1 t_lastFault).bind fun y26 =>
            some (y26.1, y26.2)
        else
          (Tq_lostBy 2 t_lastFault).bind fun y28 =>
          some (y28.1, y28.2)
      else none
set_option maxRecDepth 100000 in
set_option maxHeartbeats 4000000 in
theorem c_Tq_cell (l : Launch) (D : va_G) (cI cJ cS : ClassId) (q_t q_t_plan q_t_counter q_t_choices q_t_ringers q_t_readings q_t_sheets q_t_sh0 q_t_sh0_cells q_t_sh1 q_t_sh1_cells q_t_sh2 q_t_sh2_cells q_t_sh3 q_t_sh3_cells : Nat) (t_traced : Int32) (t_lastFault : Int32) (t_sh_lane : Nat → Int32) (t_sh_size : Nat → Int32) (t_sh_cells : Nat → Nat → Int32) (p_k : Int32) (p_i : Int32) (p_lane : Int32) (o : Int64 × Int32) (hM : Tq_cell p_k p_i p_lane t_sh_lane t_sh_size t_sh_cells t_lastFault = some o) : Cl l yX8_cell wsX8_cell rm_Tq_cell D cI cJ cS [.ref q_t, .int p_k, .int p_i, .int p_lane] (w_Tq_cell cI cJ cS q_t q_t_plan q_t_counter q_t_choices q_t_ringers q_t_readings q_t_sheets q_t_sh0 q_t_sh0_cells q_t_sh1 q_t_sh1_cells q_t_sh2 q_t_sh2_cells q_t_sh3 q_t_sh3_cells t_traced t_lastFault t_sh_lane t_sh_size t_sh_cells) (w_Tq_cell cI cJ cS q_t q_t_plan q_t_counter q_t_choices q_t_ringers q_t_readings q_t_sheets q_t_sh0 q_t_sh0_cells q_t_sh1 q_t_sh1_cells q_t_sh2 q_t_sh2_cells q_t_sh3 q_t_sh3_cells t_traced o.2 t_sh_lane t_sh_size t_sh_cells) o.1 := by
  refine Cl.of (cc := cX8_cell) (maxL := 5) (ret := (some .long)) (by decide) rfl (Nat.le_of_ble_eq_true rfl) ?_
  intro p e s m args below meth c A ls hE
  obtain ⟨hx, hb, hr, hml, hown, hts, hlocks, hK, hA, hP, hD, hS, hl⟩ := hE
  have hown : s.vm.findClass RX8 = some m.cls := hown
  have hl : lv_has ls 5 [(0, .ref q_t), (1, .int p_k), (2, .int p_i), (3, .int p_lane)] := hl
  have iX8 : ∀ w ∈ u_ws RX8 TX8 8, w ∈ wsX8_cell := by decide +kernel
  have k0 := hts (.fieldLink RX8 48 "TurnQueue" "sheets" "[LTurnQueue$Sheet;") (by decide +kernel)
  unfold Tq_cell at hM
  refine lv_iload_n hx hb dX8_cell_0 rfl (lv_at hl 1 rfl) ?_
  obtain ⟨y1, h2, hM⟩ := o_bd hM
  refine af_i (ws2 := (w_Tq_cell cI cJ cS q_t q_t_plan q_t_counter q_t_choices q_t_ringers q_t_readings q_t_sheets q_t_sh0 q_t_sh0_cells q_t_sh1 q_t_sh1_cells q_t_sh2 q_t_sh2_cells q_t_sh3 q_t_sh3_cells t_traced t_lastFault t_sh_lane t_sh_size t_sh_cells)) (va_runS (As := [.int p_k]) (rest := []) ⟨hx, hb, hml, hown, hts⟩ (c_Tq_isSheet l D cI cJ cS p_k y1 h2 _) (va_cwS 1 hts gX8_cell_X8_isSheet rfl rfl rfl (by decide +kernel) ⟨(Nat.le_of_ble_eq_true rfl), (Nat.le_of_ble_eq_true rfl)⟩) (pre_S hK hP hD [] rfl rfl) rfl rfl hl.1 rfl (lv_room (Nat.le_of_ble_eq_true rfl)) dX8_cell_1 ⟨Nat.zero_le _, Nat.zero_le _⟩) hP hD hS hA [] [0, 1, 2, 3, 4, 5, 6, 7, 8, 9] [0, 1, 2, 3, 4, 5, 6, 7, 8, 9] rfl rfl rfl (by decide) rfl rfl (fun H locs hP hD hS => ?_)
  refine lv_if_eq (tgt := 14) hx hb dX8_cell_4 (by decide) (fun c3 => ?_) (fun c3 => ?_)
  · have hM := (o_if hM).1 c3
    refine lv_aload_n hx hb dX8_cell_14 rfl (lv_at hl 0 rfl) ?_
    refine lv_iconst (v := 0) hx hb dX8_cell_15 (by decide) ?_
    obtain ⟨y4, h5, hM⟩ := o_bd hM
    refine af_l (ws2 := (w_Tq_cell cI cJ cS q_t q_t_plan q_t_counter q_t_choices q_t_ringers q_t_readings q_t_sheets q_t_sh0 q_t_sh0_cells q_t_sh1 q_t_sh1_cells q_t_sh2 q_t_sh2_cells q_t_sh3 q_t_sh3_cells t_traced y4.2 t_sh_lane t_sh_size t_sh_cells)) (va_runV (As := [.int 0]) (rest := []) ⟨hx, hb, hml, hown, hts⟩ (c_Tq_lostBy l D cI cJ cS q_t q_t_plan q_t_counter q_t_choices q_t_ringers q_t_readings q_t_sheets t_traced t_lastFault 0 y4 h5 _) (cwV 1 hts gX8_cell_X8_lostBy rfl rfl rfl (by decide +kernel) ⟨(Nat.le_of_ble_eq_true rfl), (Nat.le_of_ble_eq_true rfl)⟩) (pre_V hK hP hD [0] rfl rfl rfl rfl) rfl rfl hl.1 rfl (lv_room (Nat.le_of_ble_eq_true rfl)) dX8_cell_16 ⟨Nat.zero_le _, Nat.zero_le _⟩) hP hD hS hA [0] [1, 2, 3, 4, 5, 6, 7, 8, 9] [9, 0, 1, 2, 3, 4, 5, 6, 7, 8] rfl rfl rfl (by decide) rfl rfl (fun H locs hP hD hS => ?_)
    have hM := (Option.some.inj hM)
    subst hM
    exact rt_l hx hb hr hlocks hP hD hS dX8_cell_19
  · have hM := (o_if hM).2 c3
    refine lv_iload_n hx hb dX8_cell_7 rfl (lv_at hl 3 rfl) ?_
    obtain ⟨y6, h7, hM⟩ := o_bd hM
    refine af_i (ws2 := (w_Tq_cell cI cJ cS q_t q_t_plan q_t_counter q_t_choices q_t_ringers q_t_readings q_t_sheets q_t_sh0 q_t_sh0_cells q_t_sh1 q_t_sh1_cells q_t_sh2 q_t_sh2_cells q_t_sh3 q_t_sh3_cells t_traced t_lastFault t_sh_lane t_sh_size t_sh_cells)) (va_runS (As := [.int p_lane]) (rest := []) ⟨hx, hb, hml, hown, hts⟩ (c_Tq_isLane l D cI cJ cS p_lane y6 h7 _) (va_cwS 1 hts gX8_cell_X8_isLane rfl rfl rfl (by decide +kernel) ⟨(Nat.le_of_ble_eq_true rfl), (Nat.le_of_ble_eq_true rfl)⟩) (pre_S hK hP hD [] rfl rfl) rfl rfl hl.1 rfl (lv_room (Nat.le_of_ble_eq_true rfl)) dX8_cell_8 ⟨Nat.zero_le _, Nat.zero_le _⟩) hP hD hS hA [] [0, 1, 2, 3, 4, 5, 6, 7, 8, 9] [0, 1, 2, 3, 4, 5, 6, 7, 8, 9] rfl rfl rfl (by decide) rfl rfl (fun H locs hP hD hS => ?_)
    refine lv_if_ne (tgt := 20) hx hb dX8_cell_11 (by decide) (fun c8 => ?_) (fun c8 => ?_)
    · have hM := (o_if hM).2 c8
      refine lv_aload_n hx hb dX8_cell_20 rfl (lv_at hl 0 rfl) ?_
      refine va_get (ci := 7) (v := .ref q_t_sheets) (C := RX8) (T := TX8) (N := 8) hx hb hts iX8 hown hK.1 hP 0 rfl rfl 5 (Nat.le_of_ble_eq_true rfl) k0 (fun _ h9 => h9) rfl dX8_cell_21 ?_
      refine lv_iload_n hx hb dX8_cell_24 rfl (lv_at hl 1 rfl) ?_
      obtain ⟨h9, hM⟩ := o_ck hM
      refine va_aldq hx hb hK.1 hP 1 2 rfl rfl h9 dX8_cell_25 ?_
      obtain ⟨j10, ej10⟩ : ∃ y : Nat, y = p_k.toNatClampNeg := ⟨_, rfl⟩
      have hM := o_lt hM j10 ej10
      have hj10 : j10 < 4 := by rw [ej10]; exact ck_lt h9
      rw [← ej10]
      rcases (show j10 = 0 ∨ j10 = 1 ∨ j10 = 2 ∨ j10 = 3 by omega) with rfl | rfl | rfl | rfl
      · refine W.eq (g2 := F0 m 26 ls [.ref q_t_sh0]) rfl ?_
        refine lv_astore (lv' := [(4, .ref q_t_sh0), (0, .ref q_t), (1, .int p_k), (2, .int p_i), (3, .int p_lane)]) hx hb dX8_cell_26 hl (Nat.le_of_ble_eq_true rfl) rfl (fun ls hl => ?_)
        refine lv_aload hx hb dX8_cell_28 (lv_at hl 0 rfl) ?_
        refine lv_iload_n hx hb dX8_cell_30 rfl (lv_at hl 4 rfl) ?_
        obtain ⟨y11, h12, hM⟩ := o_bd hM
        refine af_i (ws2 := (w_Tq_cell cI cJ cS q_t q_t_plan q_t_counter q_t_choices q_t_ringers q_t_readings q_t_sheets q_t_sh0 q_t_sh0_cells q_t_sh1 q_t_sh1_cells q_t_sh2 q_t_sh2_cells q_t_sh3 q_t_sh3_cells t_traced t_lastFault t_sh_lane t_sh_size t_sh_cells)) (va_runV (As := [.int p_lane]) (rest := []) ⟨hx, hb, hml, hown, hts⟩ (c_Sh_isOfAnother l D cI cJ cS q_t_sh0 q_t_sh0_cells (t_sh_lane 0) (t_sh_size 0) p_lane y11 h12 _) (cwV 1 hts gX8_cell_X6_isOfAnother rfl rfl rfl (by decide +kernel) ⟨(Nat.le_of_ble_eq_true rfl), (Nat.le_of_ble_eq_true rfl)⟩) (pre_V hK hP hD [2] rfl rfl rfl rfl) rfl rfl hl.1 rfl (lv_room (Nat.le_of_ble_eq_true rfl)) dX8_cell_31 ⟨Nat.zero_le _, Nat.zero_le _⟩) hP hD hS hA [2] [0, 1, 3, 4, 5, 6, 7, 8, 9] [0, 1, 9, 2, 3, 4, 5, 6, 7, 8] rfl rfl rfl (by decide) rfl rfl (fun H locs hP hD hS => ?_)
        refine lv_if_eq (tgt := 43) hx hb dX8_cell_34 (by decide) (fun c13 => ?_) (fun c13 => ?_)
        · have hM := (o_if hM).1 c13
          refine lv_aload hx hb dX8_cell_43 (lv_at hl 0 rfl) ?_
          obtain ⟨y14, h15, hM⟩ := o_bd hM
          refine af_i (ws2 := (w_Tq_cell cI cJ cS q_t q_t_plan q_t_counter q_t_choices q_t_ringers q_t_readings q_t_sheets q_t_sh0 q_t_sh0_cells q_t_sh1 q_t_sh1_cells q_t_sh2 q_t_sh2_cells q_t_sh3 q_t_sh3_cells t_traced t_lastFault t_sh_lane t_sh_size t_sh_cells)) (va_runV (As := []) (rest := []) ⟨hx, hb, hml, hown, hts⟩ (c_Sh_hasNothing l D cI cJ cS q_t_sh0 q_t_sh0_cells (t_sh_lane 0) (t_sh_size 0) y14 h15 _) (cwV 0 hts gX8_cell_X6_hasNothing rfl rfl rfl (by decide +kernel) ⟨(Nat.le_of_ble_eq_true rfl), (Nat.le_of_ble_eq_true rfl)⟩) (pre_V hK hP hD [2] rfl rfl rfl rfl) rfl rfl hl.1 rfl (lv_room (Nat.le_of_ble_eq_true rfl)) dX8_cell_45 ⟨Nat.zero_le _, Nat.zero_le _⟩) hP hD hS hA [2] [0, 1, 3, 4, 5, 6, 7, 8, 9] [0, 1, 9, 2, 3, 4, 5, 6, 7, 8] rfl rfl rfl (by decide) rfl rfl (fun H locs hP hD hS => ?_)
          refine lv_if_eq (tgt := 57) hx hb dX8_cell_48 (by decide) (fun c16 => ?_) (fun c16 => ?_)
          · have hM := (o_if hM).1 c16
            refine lv_aload hx hb dX8_cell_57 (lv_at hl 0 rfl) ?_
            refine lv_iload_n hx hb dX8_cell_59 rfl (lv_at hl 3 rfl) ?_
            refine lv_iconst (v := 1) hx hb dX8_cell_60 (by decide) ?_
            obtain ⟨y17, h18, hM⟩ := o_bd hM
            refine af_i (ws2 := (w_Tq_cell cI cJ cS q_t q_t_plan q_t_counter q_t_choices q_t_ringers q_t_readings q_t_sheets q_t_sh0 q_t_sh0_cells q_t_sh1 q_t_sh1_cells q_t_sh2 q_t_sh2_cells q_t_sh3 q_t_sh3_cells t_traced t_lastFault t_sh_lane t_sh_size t_sh_cells)) (va_runV (As := [.int p_i, .int 1]) (rest := []) ⟨hx, hb, hml, hown, hts⟩ (c_Sh_holds l D cI cJ cS q_t_sh0 q_t_sh0_cells (t_sh_lane 0) (t_sh_size 0) p_i 1 y17 h18 _) (cwV 2 hts gX8_cell_X6_holds rfl rfl rfl (by decide +kernel) ⟨(Nat.le_of_ble_eq_true rfl), (Nat.le_of_ble_eq_true rfl)⟩) (pre_V hK hP hD [2] rfl rfl rfl rfl) rfl rfl hl.1 rfl (lv_room (Nat.le_of_ble_eq_true rfl)) dX8_cell_61 ⟨Nat.zero_le _, Nat.zero_le _⟩) hP hD hS hA [2] [0, 1, 3, 4, 5, 6, 7, 8, 9] [0, 1, 9, 2, 3, 4, 5, 6, 7, 8] rfl rfl rfl (by decide) rfl rfl (fun H locs hP hD hS => ?_)
            refine lv_if_ne (tgt := 73) hx hb dX8_cell_64 (by decide) (fun c19 => ?_) (fun c19 => ?_)
            · have hM := (o_if hM).2 c19
              refine lv_aload_n hx hb dX8_cell_73 rfl (lv_at hl 1 rfl) ?_
              refine lv_aload hx hb dX8_cell_74 (lv_at hl 0 rfl) ?_
              refine lv_iload_n hx hb dX8_cell_76 rfl (lv_at hl 3 rfl) ?_
              obtain ⟨y20, h21, hM⟩ := o_bd hM
              refine af_i (ws2 := (w_Tq_cell cI cJ cS q_t q_t_plan q_t_counter q_t_choices q_t_ringers q_t_readings q_t_sheets q_t_sh0 q_t_sh0_cells q_t_sh1 q_t_sh1_cells q_t_sh2 q_t_sh2_cells q_t_sh3 q_t_sh3_cells t_traced t_lastFault t_sh_lane t_sh_size t_sh_cells)) (va_runV (As := [.int p_i]) (rest := [.ref q_t]) ⟨hx, hb, hml, hown, hts⟩ (c_Sh_at l D cI cJ cS q_t_sh0 q_t_sh0_cells (t_sh_lane 0) (t_sh_size 0) (t_sh_cells 0) p_i y20 h21 _) (cwV 1 hts gX8_cell_X6_at rfl rfl rfl (by decide +kernel) ⟨(Nat.le_of_ble_eq_true rfl), (Nat.le_of_ble_eq_true rfl)⟩) (pre_V hK hP hD [2, 3] rfl rfl rfl rfl) rfl rfl hl.1 rfl (lv_room (Nat.le_of_ble_eq_true rfl)) dX8_cell_77 ⟨Nat.zero_le _, Nat.zero_le _⟩) hP hD hS hA [2, 3] [0, 1, 4, 5, 6, 7, 8, 9] [0, 1, 8, 9, 2, 3, 4, 5, 6, 7] rfl rfl rfl (by decide) rfl rfl (fun H locs hP hD hS => ?_)
              obtain ⟨y22, h23, hM⟩ := o_bd hM
              refine af_i (ws2 := (w_Tq_cell cI cJ cS q_t q_t_plan q_t_counter q_t_choices q_t_ringers q_t_readings q_t_sheets q_t_sh0 q_t_sh0_cells q_t_sh1 q_t_sh1_cells q_t_sh2 q_t_sh2_cells q_t_sh3 q_t_sh3_cells t_traced y22.2 t_sh_lane t_sh_size t_sh_cells)) (va_runV (As := [.int y20]) (rest := []) ⟨hx, hb, hml, hown, hts⟩ (c_Tq_faultless l D cI cJ cS q_t q_t_plan q_t_counter q_t_choices q_t_ringers q_t_readings q_t_sheets t_traced t_lastFault y20 y22 h23 _) (cwV 1 hts gX8_cell_X8_faultless rfl rfl rfl (by decide +kernel) ⟨(Nat.le_of_ble_eq_true rfl), (Nat.le_of_ble_eq_true rfl)⟩) (pre_V hK hP hD [0] rfl rfl rfl rfl) rfl rfl hl.1 rfl (lv_room (Nat.le_of_ble_eq_true rfl)) dX8_cell_80 ⟨Nat.zero_le _, Nat.zero_le _⟩) hP hD hS hA [0] [1, 2, 3, 4, 5, 6, 7, 8, 9] [9, 0, 1, 2, 3, 4, 5, 6, 7, 8] rfl rfl rfl (by decide) rfl rfl (fun H locs hP hD hS => ?_)
              refine lv_i2l (v := y22.1.toInt64) hx hb dX8_cell_83 rfl ?_
              have hM := (Option.some.inj hM)
              subst hM
              exact rt_l hx hb hr hlocks hP hD hS dX8_cell_84
            · have hM := (o_if hM).1 c19
              refine lv_aload_n hx hb dX8_cell_67 rfl (lv_at hl 1 rfl) ?_
              refine lv_iconst (v := 3) hx hb dX8_cell_68 (by decide) ?_
              obtain ⟨y24, h25, hM⟩ := o_bd hM
              refine af_l (ws2 := (w_Tq_cell cI cJ cS q_t q_t_plan q_t_counter q_t_choices q_t_ringers q_t_readings q_t_sheets q_t_sh0 q_t_sh0_cells q_t_sh1 q_t_sh1_cells q_t_sh2 q_t_sh2_cells q_t_sh3 q_t_sh3_cells t_traced y24.2 t_sh_lane t_sh_size t_sh_cells)) (va_runV (As := [.int 3]) (rest := []) ⟨hx, hb, hml, hown, hts⟩ (c_Tq_lostBy l D cI cJ cS q_t q_t_plan q_t_counter q_t_choices q_t_ringers q_t_readings q_t_sheets t_traced t_lastFault 3 y24 h25 _) (cwV 1 hts gX8_cell_X8_lostBy rfl rfl rfl (by decide +kernel) ⟨(Nat.le_of_ble_eq_true rfl), (Nat.le_of_ble_eq_true rfl)⟩) (pre_V hK hP hD [0] rfl rfl rfl rfl) rfl rfl hl.1 rfl (lv_room (Nat.le_of_ble_eq_true rfl)) dX8_cell_69 ⟨Nat.zero_le _, Nat.zero_le _⟩) hP hD hS hA [0] [1, 2, 3, 4, 5, 6, 7, 8, 9] [9, 0, 1, 2, 3, 4, 5, 6, 7, 8] rfl rfl rfl (by decide) rfl rfl (fun H locs hP hD hS => ?_)
              have hM := (Option.some.inj hM)
              subst hM
              exact rt_l hx hb hr hlocks hP hD hS dX8_cell_72
          · have hM := (o_if hM).2 c16
            refine lv_aload_n hx hb dX8_cell_51 rfl (lv_at hl 1 rfl) ?_
            refine lv_iconst (v := 1) hx hb dX8_cell_52 (by decide) ?_
            obtain ⟨y26, h27, hM⟩ := o_bd hM
            refine af_l (ws2 := (w_Tq_cell cI cJ cS q_t q_t_plan q_t_counter q_t_choices q_t_ringers q_t_readings q_t_sheets q_t_sh0 q_t_sh0_cells q_t_sh1 q_t_sh1_cells q_t_sh2 q_t_sh2_cells q_t_sh3 q_t_sh3_cells t_traced y26.2 t_sh_lane t_sh_size t_sh_cells)) (va_runV (As := [.int 1]) (rest := []) ⟨hx, hb, hml, hown, hts⟩ (c_Tq_lostBy l D cI cJ cS q_t q_t_plan q_t_counter q_t_choices q_t_ringers q_t_readings q_t_sheets t_traced t_lastFault 1 y26 h27 _) (cwV 1 hts gX8_cell_X8_lostBy rfl rfl rfl (by decide +kernel) ⟨(Nat.le_of_ble_eq_true rfl), (Nat.le_of_ble_eq_true rfl)⟩) (pre_V hK hP hD [0] rfl rfl rfl rfl) rfl rfl hl.1 rfl (lv_room (Nat.le_of_ble_eq_true rfl)) dX8_cell_53 ⟨Nat.zero_le _, Nat.zero_le _⟩) hP hD hS hA [0] [1, 2, 3, 4, 5, 6, 7, 8, 9] [9, 0, 1, 2, 3, 4, 5, 6, 7, 8] rfl rfl rfl (by decide) rfl rfl (fun H locs hP hD hS => ?_)
            have hM := (Option.some.inj hM)
            subst hM
            exact rt_l hx hb hr hlocks hP hD hS dX8_cell_56
        · have hM := (o_if hM).2 c13
          refine lv_aload_n hx hb dX8_cell_37 rfl (lv_at hl 1 rfl) ?_
          refine lv_iconst (v := 2) hx hb dX8_cell_38 (by decide) ?_
          obtain ⟨y28, h29, hM⟩ := o_bd hM
          refine af_l (ws2 := (w_Tq_cell cI cJ cS q_t q_t_plan q_t_counter q_t_choices q_t_ringers q_t_readings q_t_sheets q_t_sh0 q_t_sh0_cells q_t_sh1 q_t_sh1_cells q_t_sh2 q_t_sh2_cells q_t_sh3 q_t_sh3_cells t_traced y28.2 t_sh_lane t_sh_size t_sh_cells)) (va_runV (As := [.int 2]) (rest := []) ⟨hx, hb, hml, hown, hts⟩ (c_Tq_lostBy l D cI cJ cS q_t q_t_plan q_t_counter q_t_choices q_t_ringers q_t_readings q_t_sheets t_traced t_lastFault 2 y28 h29 _) (cwV 1 hts gX8_cell_X8_lostBy rfl rfl rfl (by decide +kernel) ⟨(Nat.le_of_ble_eq_true rfl), (Nat.le_of_ble_eq_true rfl)⟩) (pre_V hK hP hD [0] rfl rfl rfl rfl) rfl rfl hl.1 rfl (lv_room (Nat.le_of_ble_eq_true rfl)) dX8_cell_39 ⟨Nat.zero_le _, Nat.zero_le _⟩) hP hD hS hA [0] [1, 2, 3, 4, 5, 6, 7, 8, 9] [9, 0, 1, 2, 3, 4, 5, 6, 7, 8] rfl rfl rfl (by decide) rfl rfl (fun H locs hP hD hS => ?_)
          have hM := (Option.some.inj hM)
          subst hM
          exact rt_l hx hb hr hlocks hP hD hS dX8_cell_42
      · refine W.eq (g2 := F0 m 26 ls [.ref q_t_sh1]) rfl ?_
        refine lv_astore (lv' := [(4, .ref q_t_sh1), (0, .ref q_t), (1, .int p_k), (2, .int p_i), (3, .int p_lane)]) hx hb dX8_cell_26 hl (Nat.le_of_ble_eq_true rfl) rfl (fun ls hl => ?_)
        refine lv_aload hx hb dX8_cell_28 (lv_at hl 0 rfl) ?_
        refine lv_iload_n hx hb dX8_cell_30 rfl (lv_at hl 4 rfl) ?_
        obtain ⟨y11, h12, hM⟩ := o_bd hM
        refine af_i (ws2 := (w_Tq_cell cI cJ cS q_t q_t_plan q_t_counter q_t_choices q_t_ringers q_t_readings q_t_sheets q_t_sh0 q_t_sh0_cells q_t_sh1 q_t_sh1_cells q_t_sh2 q_t_sh2_cells q_t_sh3 q_t_sh3_cells t_traced t_lastFault t_sh_lane t_sh_size t_sh_cells)) (va_runV (As := [.int p_lane]) (rest := []) ⟨hx, hb, hml, hown, hts⟩ (c_Sh_isOfAnother l D cI cJ cS q_t_sh1 q_t_sh1_cells (t_sh_lane 1) (t_sh_size 1) p_lane y11 h12 _) (cwV 1 hts gX8_cell_X6_isOfAnother rfl rfl rfl (by decide +kernel) ⟨(Nat.le_of_ble_eq_true rfl), (Nat.le_of_ble_eq_true rfl)⟩) (pre_V hK hP hD [4] rfl rfl rfl rfl) rfl rfl hl.1 rfl (lv_room (Nat.le_of_ble_eq_true rfl)) dX8_cell_31 ⟨Nat.zero_le _, Nat.zero_le _⟩) hP hD hS hA [4] [0, 1, 2, 3, 5, 6, 7, 8, 9] [0, 1, 2, 3, 9, 4, 5, 6, 7, 8] rfl rfl rfl (by decide) rfl rfl (fun H locs hP hD hS => ?_)
        refine lv_if_eq (tgt := 43) hx hb dX8_cell_34 (by decide) (fun c13 => ?_) (fun c13 => ?_)
        · have hM := (o_if hM).1 c13
          refine lv_aload hx hb dX8_cell_43 (lv_at hl 0 rfl) ?_
          obtain ⟨y14, h15, hM⟩ := o_bd hM
          refine af_i (ws2 := (w_Tq_cell cI cJ cS q_t q_t_plan q_t_counter q_t_choices q_t_ringers q_t_readings q_t_sheets q_t_sh0 q_t_sh0_cells q_t_sh1 q_t_sh1_cells q_t_sh2 q_t_sh2_cells q_t_sh3 q_t_sh3_cells t_traced t_lastFault t_sh_lane t_sh_size t_sh_cells)) (va_runV (As := []) (rest := []) ⟨hx, hb, hml, hown, hts⟩ (c_Sh_hasNothing l D cI cJ cS q_t_sh1 q_t_sh1_cells (t_sh_lane 1) (t_sh_size 1) y14 h15 _) (cwV 0 hts gX8_cell_X6_hasNothing rfl rfl rfl (by decide +kernel) ⟨(Nat.le_of_ble_eq_true rfl), (Nat.le_of_ble_eq_true rfl)⟩) (pre_V hK hP hD [4] rfl rfl rfl rfl) rfl rfl hl.1 rfl (lv_room (Nat.le_of_ble_eq_true rfl)) dX8_cell_45 ⟨Nat.zero_le _, Nat.zero_le _⟩) hP hD hS hA [4] [0, 1, 2, 3, 5, 6, 7, 8, 9] [0, 1, 2, 3, 9, 4, 5, 6, 7, 8] rfl rfl rfl (by decide) rfl rfl (fun H locs hP hD hS => ?_)
          refine lv_if_eq (tgt := 57) hx hb dX8_cell_48 (by decide) (fun c16 => ?_) (fun c16 => ?_)
          · have hM := (o_if hM).1 c16
            refine lv_aload hx hb dX8_cell_57 (lv_at hl 0 rfl) ?_
            refine lv_iload_n hx hb dX8_cell_59 rfl (lv_at hl 3 rfl) ?_
            refine lv_iconst (v := 1) hx hb dX8_cell_60 (by decide) ?_
            obtain ⟨y17, h18, hM⟩ := o_bd hM
            refine af_i (ws2 := (w_Tq_cell cI cJ cS q_t q_t_plan q_t_counter q_t_choices q_t_ringers q_t_readings q_t_sheets q_t_sh0 q_t_sh0_cells q_t_sh1 q_t_sh1_cells q_t_sh2 q_t_sh2_cells q_t_sh3 q_t_sh3_cells t_traced t_lastFault t_sh_lane t_sh_size t_sh_cells)) (va_runV (As := [.int p_i, .int 1]) (rest := []) ⟨hx, hb, hml, hown, hts⟩ (c_Sh_holds l D cI cJ cS q_t_sh1 q_t_sh1_cells (t_sh_lane 1) (t_sh_size 1) p_i 1 y17 h18 _) (cwV 2 hts gX8_cell_X6_holds rfl rfl rfl (by decide +kernel) ⟨(Nat.le_of_ble_eq_true rfl), (Nat.le_of_ble_eq_true rfl)⟩) (pre_V hK hP hD [4] rfl rfl rfl rfl) rfl rfl hl.1 rfl (lv_room (Nat.le_of_ble_eq_true rfl)) dX8_cell_61 ⟨Nat.zero_le _, Nat.zero_le _⟩) hP hD hS hA [4] [0, 1, 2, 3, 5, 6, 7, 8, 9] [0, 1, 2, 3, 9, 4, 5, 6, 7, 8] rfl rfl rfl (by decide) rfl rfl (fun H locs hP hD hS => ?_)
            refine lv_if_ne (tgt := 73) hx hb dX8_cell_64 (by decide) (fun c19 => ?_) (fun c19 => ?_)
            · have hM := (o_if hM).2 c19
              refine lv_aload_n hx hb dX8_cell_73 rfl (lv_at hl 1 rfl) ?_
              refine lv_aload hx hb dX8_cell_74 (lv_at hl 0 rfl) ?_
              refine lv_iload_n hx hb dX8_cell_76 rfl (lv_at hl 3 rfl) ?_
              obtain ⟨y20, h21, hM⟩ := o_bd hM
              refine af_i (ws2 := (w_Tq_cell cI cJ cS q_t q_t_plan q_t_counter q_t_choices q_t_ringers q_t_readings q_t_sheets q_t_sh0 q_t_sh0_cells q_t_sh1 q_t_sh1_cells q_t_sh2 q_t_sh2_cells q_t_sh3 q_t_sh3_cells t_traced t_lastFault t_sh_lane t_sh_size t_sh_cells)) (va_runV (As := [.int p_i]) (rest := [.ref q_t]) ⟨hx, hb, hml, hown, hts⟩ (c_Sh_at l D cI cJ cS q_t_sh1 q_t_sh1_cells (t_sh_lane 1) (t_sh_size 1) (t_sh_cells 1) p_i y20 h21 _) (cwV 1 hts gX8_cell_X6_at rfl rfl rfl (by decide +kernel) ⟨(Nat.le_of_ble_eq_true rfl), (Nat.le_of_ble_eq_true rfl)⟩) (pre_V hK hP hD [4, 5] rfl rfl rfl rfl) rfl rfl hl.1 rfl (lv_room (Nat.le_of_ble_eq_true rfl)) dX8_cell_77 ⟨Nat.zero_le _, Nat.zero_le _⟩) hP hD hS hA [4, 5] [0, 1, 2, 3, 6, 7, 8, 9] [0, 1, 2, 3, 8, 9, 4, 5, 6, 7] rfl rfl rfl (by decide) rfl rfl (fun H locs hP hD hS => ?_)
              obtain ⟨y22, h23, hM⟩ := o_bd hM
              refine af_i (ws2 := (w_Tq_cell cI cJ cS q_t q_t_plan q_t_counter q_t_choices q_t_ringers q_t_readings q_t_sheets q_t_sh0 q_t_sh0_cells q_t_sh1 q_t_sh1_cells q_t_sh2 q_t_sh2_cells q_t_sh3 q_t_sh3_cells t_traced y22.2 t_sh_lane t_sh_size t_sh_cells)) (va_runV (As := [.int y20]) (rest := []) ⟨hx, hb, hml, hown, hts⟩ (c_Tq_faultless l D cI cJ cS q_t q_t_plan q_t_counter q_t_choices q_t_ringers q_t_readings q_t_sheets t_traced t_lastFault y20 y22 h23 _) (cwV 1 hts gX8_cell_X8_faultless rfl rfl rfl (by decide +kernel) ⟨(Nat.le_of_ble_eq_true rfl), (Nat.le_of_ble_eq_true rfl)⟩) (pre_V hK hP hD [0] rfl rfl rfl rfl) rfl rfl hl.1 rfl (lv_room (Nat.le_of_ble_eq_true rfl)) dX8_cell_80 ⟨Nat.zero_le _, Nat.zero_le _⟩) hP hD hS hA [0] [1, 2, 3, 4, 5, 6, 7, 8, 9] [9, 0, 1, 2, 3, 4, 5, 6, 7, 8] rfl rfl rfl (by decide) rfl rfl (fun H locs hP hD hS => ?_)
              refine lv_i2l (v := y22.1.toInt64) hx hb dX8_cell_83 rfl ?_
              have hM := (Option.some.inj hM)
              subst hM
              exact rt_l hx hb hr hlocks hP hD hS dX8_cell_84
            · have hM := (o_if hM).1 c19
              refine lv_aload_n hx hb dX8_cell_67 rfl (lv_at hl 1 rfl) ?_
              refine lv_iconst (v := 3) hx hb dX8_cell_68 (by decide) ?_
              obtain ⟨y24, h25, hM⟩ := o_bd hM
              refine af_l (ws2 := (w_Tq_cell cI cJ cS q_t q_t_plan q_t_counter q_t_choices q_t_ringers q_t_readings q_t_sheets q_t_sh0 q_t_sh0_cells q_t_sh1 q_t_sh1_cells q_t_sh2 q_t_sh2_cells q_t_sh3 q_t_sh3_cells t_traced y24.2 t_sh_lane t_sh_size t_sh_cells)) (va_runV (As := [.int 3]) (rest := []) ⟨hx, hb, hml, hown, hts⟩ (c_Tq_lostBy l D cI cJ cS q_t q_t_plan q_t_counter q_t_choices q_t_ringers q_t_readings q_t_sheets t_traced t_lastFault 3 y24 h25 _) (cwV 1 hts gX8_cell_X8_lostBy rfl rfl rfl (by decide +kernel) ⟨(Nat.le_of_ble_eq_true rfl), (Nat.le_of_ble_eq_true rfl)⟩) (pre_V hK hP hD [0] rfl rfl rfl rfl) rfl rfl hl.1 rfl (lv_room (Nat.le_of_ble_eq_true rfl)) dX8_cell_69 ⟨Nat.zero_le _, Nat.zero_le _⟩) hP hD hS hA [0] [1, 2, 3, 4, 5, 6, 7, 8, 9] [9, 0, 1, 2, 3, 4, 5, 6, 7, 8] rfl rfl rfl (by decide) rfl rfl (fun H locs hP hD hS => ?_)
              have hM := (Option.some.inj hM)
              subst hM
              exact rt_l hx hb hr hlocks hP hD hS dX8_cell_72
          · have hM := (o_if hM).2 c16
            refine lv_aload_n hx hb dX8_cell_51 rfl (lv_at hl 1 rfl) ?_
            refine lv_iconst (v := 1) hx hb dX8_cell_52 (by decide) ?_
            obtain ⟨y26, h27, hM⟩ := o_bd hM
            refine af_l (ws2 := (w_Tq_cell cI cJ cS q_t q_t_plan q_t_counter q_t_choices q_t_ringers q_t_readings q_t_sheets q_t_sh0 q_t_sh0_cells q_t_sh1 q_t_sh1_cells q_t_sh2 q_t_sh2_cells q_t_sh3 q_t_sh3_cells t_traced y26.2 t_sh_lane t_sh_size t_sh_cells)) (va_runV (As := [.int 1]) (rest := []) ⟨hx, hb, hml, hown, hts⟩ (c_Tq_lostBy l D cI cJ cS q_t q_t_plan q_t_counter q_t_choices q_t_ringers q_t_readings q_t_sheets t_traced t_lastFault 1 y26 h27 _) (cwV 1 hts gX8_cell_X8_lostBy rfl rfl rfl (by decide +kernel) ⟨(Nat.le_of_ble_eq_true rfl), (Nat.le_of_ble_eq_true rfl)⟩) (pre_V hK hP hD [0] rfl rfl rfl rfl) rfl rfl hl.1 rfl (lv_room (Nat.le_of_ble_eq_true rfl)) dX8_cell_53 ⟨Nat.zero_le _, Nat.zero_le _⟩) hP hD hS hA [0] [1, 2, 3, 4, 5, 6, 7, 8, 9] [9, 0, 1, 2, 3, 4, 5, 6, 7, 8] rfl rfl rfl (by decide) rfl rfl (fun H locs hP hD hS => ?_)
            have hM := (Option.some.inj hM)
            subst hM
            exact rt_l hx hb hr hlocks hP hD hS dX8_cell_56
        · have hM := (o_if hM).2 c13
          refine lv_aload_n hx hb dX8_cell_37 rfl (lv_at hl 1 rfl) ?_
          refine lv_iconst (v := 2) hx hb dX8_cell_38 (by decide) ?_
          obtain ⟨y28, h29, hM⟩ := o_bd hM
          refine af_l (ws2 := (w_Tq_cell cI cJ cS q_t q_t_plan q_t_counter q_t_choices q_t_ringers q_t_readings q_t_sheets q_t_sh0 q_t_sh0_cells q_t_sh1 q_t_sh1_cells q_t_sh2 q_t_sh2_cells q_t_sh3 q_t_sh3_cells t_traced y28.2 t_sh_lane t_sh_size t_sh_cells)) (va_runV (As := [.int 2]) (rest := []) ⟨hx, hb, hml, hown, hts⟩ (c_Tq_lostBy l D cI cJ cS q_t q_t_plan q_t_counter q_t_choices q_t_ringers q_t_readings q_t_sheets t_traced t_lastFault 2 y28 h29 _) (cwV 1 hts gX8_cell_X8_lostBy rfl rfl rfl (by decide +kernel) ⟨(Nat.le_of_ble_eq_true rfl), (Nat.le_of_ble_eq_true rfl)⟩) (pre_V hK hP hD [0] rfl rfl rfl rfl) rfl rfl hl.1 rfl (lv_room (Nat.le_of_ble_eq_true rfl)) dX8_cell_39 ⟨Nat.zero_le _, Nat.zero_le _⟩) hP hD hS hA [0] [1, 2, 3, 4, 5, 6, 7, 8, 9] [9, 0, 1, 2, 3, 4, 5, 6, 7, 8] rfl rfl rfl (by decide) rfl rfl (fun H locs hP hD hS => ?_)
          have hM := (Option.some.inj hM)
          subst hM
          exact rt_l hx hb hr hlocks hP hD hS dX8_cell_42
      · refine W.eq (g2 := F0 m 26 ls [.ref q_t_sh2]) rfl ?_
        refine lv_astore (lv' := [(4, .ref q_t_sh2), (0, .ref q_t), (1, .int p_k), (2, .int p_i), (3, .int p_lane)]) hx hb dX8_cell_26 hl (Nat.le_of_ble_eq_true rfl) rfl (fun ls hl => ?_)
        refine lv_aload hx hb dX8_cell_28 (lv_at hl 0 rfl) ?_
        refine lv_iload_n hx hb dX8_cell_30 rfl (lv_at hl 4 rfl) ?_
        obtain ⟨y11, h12, hM⟩ := o_bd hM
        refine af_i (ws2 := (w_Tq_cell cI cJ cS q_t q_t_plan q_t_counter q_t_choices q_t_ringers q_t_readings q_t_sheets q_t_sh0 q_t_sh0_cells q_t_sh1 q_t_sh1_cells q_t_sh2 q_t_sh2_cells q_t_sh3 q_t_sh3_cells t_traced t_lastFault t_sh_lane t_sh_size t_sh_cells)) (va_runV (As := [.int p_lane]) (rest := []) ⟨hx, hb, hml, hown, hts⟩ (c_Sh_isOfAnother l D cI cJ cS q_t_sh2 q_t_sh2_cells (t_sh_lane 2) (t_sh_size 2) p_lane y11 h12 _) (cwV 1 hts gX8_cell_X6_isOfAnother rfl rfl rfl (by decide +kernel) ⟨(Nat.le_of_ble_eq_true rfl), (Nat.le_of_ble_eq_true rfl)⟩) (pre_V hK hP hD [6] rfl rfl rfl rfl) rfl rfl hl.1 rfl (lv_room (Nat.le_of_ble_eq_true rfl)) dX8_cell_31 ⟨Nat.zero_le _, Nat.zero_le _⟩) hP hD hS hA [6] [0, 1, 2, 3, 4, 5, 7, 8, 9] [0, 1, 2, 3, 4, 5, 9, 6, 7, 8] rfl rfl rfl (by decide) rfl rfl (fun H locs hP hD hS => ?_)
        refine lv_if_eq (tgt := 43) hx hb dX8_cell_34 (by decide) (fun c13 => ?_) (fun c13 => ?_)
        · have hM := (o_if hM).1 c13
          refine lv_aload hx hb dX8_cell_43 (lv_at hl 0 rfl) ?_
          obtain ⟨y14, h15, hM⟩ := o_bd hM
          refine af_i (ws2 := (w_Tq_cell cI cJ cS q_t q_t_plan q_t_counter q_t_choices q_t_ringers q_t_readings q_t_sheets q_t_sh0 q_t_sh0_cells q_t_sh1 q_t_sh1_cells q_t_sh2 q_t_sh2_cells q_t_sh3 q_t_sh3_cells t_traced t_lastFault t_sh_lane t_sh_size t_sh_cells)) (va_runV (As := []) (rest := []) ⟨hx, hb, hml, hown, hts⟩ (c_Sh_hasNothing l D cI cJ cS q_t_sh2 q_t_sh2_cells (t_sh_lane 2) (t_sh_size 2) y14 h15 _) (cwV 0 hts gX8_cell_X6_hasNothing rfl rfl rfl (by decide +kernel) ⟨(Nat.le_of_ble_eq_true rfl), (Nat.le_of_ble_eq_true rfl)⟩) (pre_V hK hP hD [6] rfl rfl rfl rfl) rfl rfl hl.1 rfl (lv_room (Nat.le_of_ble_eq_true rfl)) dX8_cell_45 ⟨Nat.zero_le _, Nat.zero_le _⟩) hP hD hS hA [6] [0, 1, 2, 3, 4, 5, 7, 8, 9] [0, 1, 2, 3, 4, 5, 9, 6, 7, 8] rfl rfl rfl (by decide) rfl rfl (fun H locs hP hD hS => ?_)
          refine lv_if_eq (tgt := 57) hx hb dX8_cell_48 (by decide) (fun c16 => ?_) (fun c16 => ?_)
          · have hM := (o_if hM).1 c16
            refine lv_aload hx hb dX8_cell_57 (lv_at hl 0 rfl) ?_
            refine lv_iload_n hx hb dX8_cell_59 rfl (lv_at hl 3 rfl) ?_
            refine lv_iconst (v := 1) hx hb dX8_cell_60 (by decide) ?_
            obtain ⟨y17, h18, hM⟩ := o_bd hM
            refine af_i (ws2 := (w_Tq_cell cI cJ cS q_t q_t_plan q_t_counter q_t_choices q_t_ringers q_t_readings q_t_sheets q_t_sh0 q_t_sh0_cells q_t_sh1 q_t_sh1_cells q_t_sh2 q_t_sh2_cells q_t_sh3 q_t_sh3_cells t_traced t_lastFault t_sh_lane t_sh_size t_sh_cells)) (va_runV (As := [.int p_i, .int 1]) (rest := []) ⟨hx, hb, hml, hown, hts⟩ (c_Sh_holds l D cI cJ cS q_t_sh2 q_t_sh2_cells (t_sh_lane 2) (t_sh_size 2) p_i 1 y17 h18 _) (cwV 2 hts gX8_cell_X6_holds rfl rfl rfl (by decide +kernel) ⟨(Nat.le_of_ble_eq_true rfl), (Nat.le_of_ble_eq_true rfl)⟩) (pre_V hK hP hD [6] rfl rfl rfl rfl) rfl rfl hl.1 rfl (lv_room (Nat.le_of_ble_eq_true rfl)) dX8_cell_61 ⟨Nat.zero_le _, Nat.zero_le _⟩) hP hD hS hA [6] [0, 1, 2, 3, 4, 5, 7, 8, 9] [0, 1, 2, 3, 4, 5, 9, 6, 7, 8] rfl rfl rfl (by decide) rfl rfl (fun H locs hP hD hS => ?_)
            refine lv_if_ne (tgt := 73) hx hb dX8_cell_64 (by decide) (fun c19 => ?_) (fun c19 => ?_)
            · have hM := (o_if hM).2 c19
              refine lv_aload_n hx hb dX8_cell_73 rfl (lv_at hl 1 rfl) ?_
              refine lv_aload hx hb dX8_cell_74 (lv_at hl 0 rfl) ?_
              refine lv_iload_n hx hb dX8_cell_76 rfl (lv_at hl 3 rfl) ?_
              obtain ⟨y20, h21, hM⟩ := o_bd hM
              refine af_i (ws2 := (w_Tq_cell cI cJ cS q_t q_t_plan q_t_counter q_t_choices q_t_ringers q_t_readings q_t_sheets q_t_sh0 q_t_sh0_cells q_t_sh1 q_t_sh1_cells q_t_sh2 q_t_sh2_cells q_t_sh3 q_t_sh3_cells t_traced t_lastFault t_sh_lane t_sh_size t_sh_cells)) (va_runV (As := [.int p_i]) (rest := [.ref q_t]) ⟨hx, hb, hml, hown, hts⟩ (c_Sh_at l D cI cJ cS q_t_sh2 q_t_sh2_cells (t_sh_lane 2) (t_sh_size 2) (t_sh_cells 2) p_i y20 h21 _) (cwV 1 hts gX8_cell_X6_at rfl rfl rfl (by decide +kernel) ⟨(Nat.le_of_ble_eq_true rfl), (Nat.le_of_ble_eq_true rfl)⟩) (pre_V hK hP hD [6, 7] rfl rfl rfl rfl) rfl rfl hl.1 rfl (lv_room (Nat.le_of_ble_eq_true rfl)) dX8_cell_77 ⟨Nat.zero_le _, Nat.zero_le _⟩) hP hD hS hA [6, 7] [0, 1, 2, 3, 4, 5, 8, 9] [0, 1, 2, 3, 4, 5, 8, 9, 6, 7] rfl rfl rfl (by decide) rfl rfl (fun H locs hP hD hS => ?_)
              obtain ⟨y22, h23, hM⟩ := o_bd hM
              refine af_i (ws2 := (w_Tq_cell cI cJ cS q_t q_t_plan q_t_counter q_t_choices q_t_ringers q_t_readings q_t_sheets q_t_sh0 q_t_sh0_cells q_t_sh1 q_t_sh1_cells q_t_sh2 q_t_sh2_cells q_t_sh3 q_t_sh3_cells t_traced y22.2 t_sh_lane t_sh_size t_sh_cells)) (va_runV (As := [.int y20]) (rest := []) ⟨hx, hb, hml, hown, hts⟩ (c_Tq_faultless l D cI cJ cS q_t q_t_plan q_t_counter q_t_choices q_t_ringers q_t_readings q_t_sheets t_traced t_lastFault y20 y22 h23 _) (cwV 1 hts gX8_cell_X8_faultless rfl rfl rfl (by decide +kernel) ⟨(Nat.le_of_ble_eq_true rfl), (Nat.le_of_ble_eq_true rfl)⟩) (pre_V hK hP hD [0] rfl rfl rfl rfl) rfl rfl hl.1 rfl (lv_room (Nat.le_of_ble_eq_true rfl)) dX8_cell_80 ⟨Nat.zero_le _, Nat.zero_le _⟩) hP hD hS hA [0] [1, 2, 3, 4, 5, 6, 7, 8, 9] [9, 0, 1, 2, 3, 4, 5, 6, 7, 8] rfl rfl rfl (by decide) rfl rfl (fun H locs hP hD hS => ?_)
              refine lv_i2l (v := y22.1.toInt64) hx hb dX8_cell_83 rfl ?_
              have hM := (Option.some.inj hM)
              subst hM
              exact rt_l hx hb hr hlocks hP hD hS dX8_cell_84
            · have hM := (o_if hM).1 c19
              refine lv_aload_n hx hb dX8_cell_67 rfl (lv_at hl 1 rfl) ?_
              refine lv_iconst (v := 3) hx hb dX8_cell_68 (by decide) ?_
              obtain ⟨y24, h25, hM⟩ := o_bd hM
              refine af_l (ws2 := (w_Tq_cell cI cJ cS q_t q_t_plan q_t_counter q_t_choices q_t_ringers q_t_readings q_t_sheets q_t_sh0 q_t_sh0_cells q_t_sh1 q_t_sh1_cells q_t_sh2 q_t_sh2_cells q_t_sh3 q_t_sh3_cells t_traced y24.2 t_sh_lane t_sh_size t_sh_cells)) (va_runV (As := [.int 3]) (rest := []) ⟨hx, hb, hml, hown, hts⟩ (c_Tq_lostBy l D cI cJ cS q_t q_t_plan q_t_counter q_t_choices q_t_ringers q_t_readings q_t_sheets t_traced t_lastFault 3 y24 h25 _) (cwV 1 hts gX8_cell_X8_lostBy rfl rfl rfl (by decide +kernel) ⟨(Nat.le_of_ble_eq_true rfl), (Nat.le_of_ble_eq_true rfl)⟩) (pre_V hK hP hD [0] rfl rfl rfl rfl) rfl rfl hl.1 rfl (lv_room (Nat.le_of_ble_eq_true rfl)) dX8_cell_69 ⟨Nat.zero_le _, Nat.zero_le _⟩) hP hD hS hA [0] [1, 2, 3, 4, 5, 6, 7, 8, 9] [9, 0, 1, 2, 3, 4, 5, 6, 7, 8] rfl rfl rfl (by decide) rfl rfl (fun H locs hP hD hS => ?_)
              have hM := (Option.some.inj hM)
              subst hM
              exact rt_l hx hb hr hlocks hP hD hS dX8_cell_72
          · have hM := (o_if hM).2 c16
            refine lv_aload_n hx hb dX8_cell_51 rfl (lv_at hl 1 rfl) ?_
            refine lv_iconst (v := 1) hx hb dX8_cell_52 (by decide) ?_
            obtain ⟨y26, h27, hM⟩ := o_bd hM
            refine af_l (ws2 := (w_Tq_cell cI cJ cS q_t q_t_plan q_t_counter q_t_choices q_t_ringers q_t_readings q_t_sheets q_t_sh0 q_t_sh0_cells q_t_sh1 q_t_sh1_cells q_t_sh2 q_t_sh2_cells q_t_sh3 q_t_sh3_cells t_traced y26.2 t_sh_lane t_sh_size t_sh_cells)) (va_runV (As := [.int 1]) (rest := []) ⟨hx, hb, hml, hown, hts⟩ (c_Tq_lostBy l D cI cJ cS q_t q_t_plan q_t_counter q_t_choices q_t_ringers q_t_readings q_t_sheets t_traced t_lastFault 1 y26 h27 _) (cwV 1 hts gX8_cell_X8_lostBy rfl rfl rfl (by decide +kernel) ⟨(Nat.le_of_ble_eq_true rfl), (Nat.le_of_ble_eq_true rfl)⟩) (pre_V hK hP hD [0] rfl rfl rfl rfl) rfl rfl hl.1 rfl (lv_room (Nat.le_of_ble_eq_true rfl)) dX8_cell_53 ⟨Nat.zero_le _, Nat.zero_le _⟩) hP hD hS hA [0] [1, 2, 3, 4, 5, 6, 7, 8, 9] [9, 0, 1, 2, 3, 4, 5, 6, 7, 8] rfl rfl rfl (by decide) rfl rfl (fun H locs hP hD hS => ?_)
            have hM := (Option.some.inj hM)
            subst hM
            exact rt_l hx hb hr hlocks hP hD hS dX8_cell_56
        · have hM := (o_if hM).2 c13
          refine lv_aload_n hx hb dX8_cell_37 rfl (lv_at hl 1 rfl) ?_
          refine lv_iconst (v := 2) hx hb dX8_cell_38 (by decide) ?_
          obtain ⟨y28, h29, hM⟩ := o_bd hM
          refine af_l (ws2 := (w_Tq_cell cI cJ cS q_t q_t_plan q_t_counter q_t_choices q_t_ringers q_t_readings q_t_sheets q_t_sh0 q_t_sh0_cells q_t_sh1 q_t_sh1_cells q_t_sh2 q_t_sh2_cells q_t_sh3 q_t_sh3_cells t_traced y28.2 t_sh_lane t_sh_size t_sh_cells)) (va_runV (As := [.int 2]) (rest := []) ⟨hx, hb, hml, hown, hts⟩ (c_Tq_lostBy l D cI cJ cS q_t q_t_plan q_t_counter q_t_choices q_t_ringers q_t_readings q_t_sheets t_traced t_lastFault 2 y28 h29 _) (cwV 1 hts gX8_cell_X8_lostBy rfl rfl rfl (by decide +kernel) ⟨(Nat.le_of_ble_eq_true rfl), (Nat.le_of_ble_eq_true rfl)⟩) (pre_V hK hP hD [0] rfl rfl rfl rfl) rfl rfl hl.1 rfl (lv_room (Nat.le_of_ble_eq_true rfl)) dX8_cell_39 ⟨Nat.zero_le _, Nat.zero_le _⟩) hP hD hS hA [0] [1, 2, 3, 4, 5, 6, 7, 8, 9] [9, 0, 1, 2, 3, 4, 5, 6, 7, 8] rfl rfl rfl (by decide) rfl rfl (fun H locs hP hD hS => ?_)
          have hM := (Option.some.inj hM)
          subst hM
          exact rt_l hx hb hr hlocks hP hD hS dX8_cell_42
      · refine W.eq (g2 := F0 m 26 ls [.ref q_t_sh3]) rfl ?_
        refine lv_astore (lv' := [(4, .ref q_t_sh3), (0, .ref q_t), (1, .int p_k), (2, .int p_i), (3, .int p_lane)]) hx hb dX8_cell_26 hl (Nat.le_of_ble_eq_true rfl) rfl (fun ls hl => ?_)
        refine lv_aload hx hb dX8_cell_28 (lv_at hl 0 rfl) ?_
        refine lv_iload_n hx hb dX8_cell_30 rfl (lv_at hl 4 rfl) ?_
        obtain ⟨y11, h12, hM⟩ := o_bd hM
        refine af_i (ws2 := (w_Tq_cell cI cJ cS q_t q_t_plan q_t_counter q_t_choices q_t_ringers q_t_readings q_t_sheets q_t_sh0 q_t_sh0_cells q_t_sh1 q_t_sh1_cells q_t_sh2 q_t_sh2_cells q_t_sh3 q_t_sh3_cells t_traced t_lastFault t_sh_lane t_sh_size t_sh_cells)) (va_runV (As := [.int p_lane]) (rest := []) ⟨hx, hb, hml, hown, hts⟩ (c_Sh_isOfAnother l D cI cJ cS q_t_sh3 q_t_sh3_cells (t_sh_lane 3) (t_sh_size 3) p_lane y11 h12 _) (cwV 1 hts gX8_cell_X6_isOfAnother rfl rfl rfl (by decide +kernel) ⟨(Nat.le_of_ble_eq_true rfl), (Nat.le_of_ble_eq_true rfl)⟩) (pre_V hK hP hD [8] rfl rfl rfl rfl) rfl rfl hl.1 rfl (lv_room (Nat.le_of_ble_eq_true rfl)) dX8_cell_31 ⟨Nat.zero_le _, Nat.zero_le _⟩) hP hD hS hA [8] [0, 1, 2, 3, 4, 5, 6, 7, 9] [0, 1, 2, 3, 4, 5, 6, 7, 9, 8] rfl rfl rfl (by decide) rfl rfl (fun H locs hP hD hS => ?_)
        refine lv_if_eq (tgt := 43) hx hb dX8_cell_34 (by decide) (fun c13 => ?_) (fun c13 => ?_)
        · have hM := (o_if hM).1 c13
          refine lv_aload hx hb dX8_cell_43 (lv_at hl 0 rfl) ?_
          obtain ⟨y14, h15, hM⟩ := o_bd hM
          refine af_i (ws2 := (w_Tq_cell cI cJ cS q_t q_t_plan q_t_counter q_t_choices q_t_ringers q_t_readings q_t_sheets q_t_sh0 q_t_sh0_cells q_t_sh1 q_t_sh1_cells q_t_sh2 q_t_sh2_cells q_t_sh3 q_t_sh3_cells t_traced t_lastFault t_sh_lane t_sh_size t_sh_cells)) (va_runV (As := []) (rest := []) ⟨hx, hb, hml, hown, hts⟩ (c_Sh_hasNothing l D cI cJ cS q_t_sh3 q_t_sh3_cells (t_sh_lane 3) (t_sh_size 3) y14 h15 _) (cwV 0 hts gX8_cell_X6_hasNothing rfl rfl rfl (by decide +kernel) ⟨(Nat.le_of_ble_eq_true rfl), (Nat.le_of_ble_eq_true rfl)⟩) (pre_V hK hP hD [8] rfl rfl rfl rfl) rfl rfl hl.1 rfl (lv_room (Nat.le_of_ble_eq_true rfl)) dX8_cell_45 ⟨Nat.zero_le _, Nat.zero_le _⟩) hP hD hS hA [8] [0, 1, 2, 3, 4, 5, 6, 7, 9] [0, 1, 2, 3, 4, 5, 6, 7, 9, 8] rfl rfl rfl (by decide) rfl rfl (fun H locs hP hD hS => ?_)
          refine lv_if_eq (tgt := 57) hx hb dX8_cell_48 (by decide) (fun c16 => ?_) (fun c16 => ?_)
          · have hM := (o_if hM).1 c16
            refine lv_aload hx hb dX8_cell_57 (lv_at hl 0 rfl) ?_
            refine lv_iload_n hx hb dX8_cell_59 rfl (lv_at hl 3 rfl) ?_
            refine lv_iconst (v := 1) hx hb dX8_cell_60 (by decide) ?_
            obtain ⟨y17, h18, hM⟩ := o_bd hM
            refine af_i (ws2 := (w_Tq_cell cI cJ cS q_t q_t_plan q_t_counter q_t_choices q_t_ringers q_t_readings q_t_sheets q_t_sh0 q_t_sh0_cells q_t_sh1 q_t_sh1_cells q_t_sh2 q_t_sh2_cells q_t_sh3 q_t_sh3_cells t_traced t_lastFault t_sh_lane t_sh_size t_sh_cells)) (va_runV (As := [.int p_i, .int 1]) (rest := []) ⟨hx, hb, hml, hown, hts⟩ (c_Sh_holds l D cI cJ cS q_t_sh3 q_t_sh3_cells (t_sh_lane 3) (t_sh_size 3) p_i 1 y17 h18 _) (cwV 2 hts gX8_cell_X6_holds rfl rfl rfl (by decide +kernel) ⟨(Nat.le_of_ble_eq_true rfl), (Nat.le_of_ble_eq_true rfl)⟩) (pre_V hK hP hD [8] rfl rfl rfl rfl) rfl rfl hl.1 rfl (lv_room (Nat.le_of_ble_eq_true rfl)) dX8_cell_61 ⟨Nat.zero_le _, Nat.zero_le _⟩) hP hD hS hA [8] [0, 1, 2, 3, 4, 5, 6, 7, 9] [0, 1, 2, 3, 4, 5, 6, 7, 9, 8] rfl rfl rfl (by decide) rfl rfl (fun H locs hP hD hS => ?_)
            refine lv_if_ne (tgt := 73) hx hb dX8_cell_64 (by decide) (fun c19 => ?_) (fun c19 => ?_)
            · have hM := (o_if hM).2 c19
              refine lv_aload_n hx hb dX8_cell_73 rfl (lv_at hl 1 rfl) ?_
              refine lv_aload hx hb dX8_cell_74 (lv_at hl 0 rfl) ?_
              refine lv_iload_n hx hb dX8_cell_76 rfl (lv_at hl 3 rfl) ?_
              obtain ⟨y20, h21, hM⟩ := o_bd hM
              refine af_i (ws2 := (w_Tq_cell cI cJ cS q_t q_t_plan q_t_counter q_t_choices q_t_ringers q_t_readings q_t_sheets q_t_sh0 q_t_sh0_cells q_t_sh1 q_t_sh1_cells q_t_sh2 q_t_sh2_cells q_t_sh3 q_t_sh3_cells t_traced t_lastFault t_sh_lane t_sh_size t_sh_cells)) (va_runV (As := [.int p_i]) (rest := [.ref q_t]) ⟨hx, hb, hml, hown, hts⟩ (c_Sh_at l D cI cJ cS q_t_sh3 q_t_sh3_cells (t_sh_lane 3) (t_sh_size 3) (t_sh_cells 3) p_i y20 h21 _) (cwV 1 hts gX8_cell_X6_at rfl rfl rfl (by decide +kernel) ⟨(Nat.le_of_ble_eq_true rfl), (Nat.le_of_ble_eq_true rfl)⟩) (pre_V hK hP hD [8, 9] rfl rfl rfl rfl) rfl rfl hl.1 rfl (lv_room (Nat.le_of_ble_eq_true rfl)) dX8_cell_77 ⟨Nat.zero_le _, Nat.zero_le _⟩) hP hD hS hA [8, 9] [0, 1, 2, 3, 4, 5, 6, 7] [0, 1, 2, 3, 4, 5, 6, 7, 8, 9] rfl rfl rfl (by decide) rfl rfl (fun H locs hP hD hS => ?_)
              obtain ⟨y22, h23, hM⟩ := o_bd hM
              refine af_i (ws2 := (w_Tq_cell cI cJ cS q_t q_t_plan q_t_counter q_t_choices q_t_ringers q_t_readings q_t_sheets q_t_sh0 q_t_sh0_cells q_t_sh1 q_t_sh1_cells q_t_sh2 q_t_sh2_cells q_t_sh3 q_t_sh3_cells t_traced y22.2 t_sh_lane t_sh_size t_sh_cells)) (va_runV (As := [.int y20]) (rest := []) ⟨hx, hb, hml, hown, hts⟩ (c_Tq_faultless l D cI cJ cS q_t q_t_plan q_t_counter q_t_choices q_t_ringers q_t_readings q_t_sheets t_traced t_lastFault y20 y22 h23 _) (cwV 1 hts gX8_cell_X8_faultless rfl rfl rfl (by decide +kernel) ⟨(Nat.le_of_ble_eq_true rfl), (Nat.le_of_ble_eq_true rfl)⟩) (pre_V hK hP hD [0] rfl rfl rfl rfl) rfl rfl hl.1 rfl (lv_room (Nat.le_of_ble_eq_true rfl)) dX8_cell_80 ⟨Nat.zero_le _, Nat.zero_le _⟩) hP hD hS hA [0] [1, 2, 3, 4, 5, 6, 7, 8, 9] [9, 0, 1, 2, 3, 4, 5, 6, 7, 8] rfl rfl rfl (by decide) rfl rfl (fun H locs hP hD hS => ?_)
              refine lv_i2l (v := y22.1.toInt64) hx hb dX8_cell_83 rfl ?_
              have hM := (Option.some.inj hM)
              subst hM
              exact rt_l hx hb hr hlocks hP hD hS dX8_cell_84
            · have hM := (o_if hM).1 c19
              refine lv_aload_n hx hb dX8_cell_67 rfl (lv_at hl 1 rfl) ?_
              refine lv_iconst (v := 3) hx hb dX8_cell_68 (by decide) ?_
              obtain ⟨y24, h25, hM⟩ := o_bd hM
              refine af_l (ws2 := (w_Tq_cell cI cJ cS q_t q_t_plan q_t_counter q_t_choices q_t_ringers q_t_readings q_t_sheets q_t_sh0 q_t_sh0_cells q_t_sh1 q_t_sh1_cells q_t_sh2 q_t_sh2_cells q_t_sh3 q_t_sh3_cells t_traced y24.2 t_sh_lane t_sh_size t_sh_cells)) (va_runV (As := [.int 3]) (rest := []) ⟨hx, hb, hml, hown, hts⟩ (c_Tq_lostBy l D cI cJ cS q_t q_t_plan q_t_counter q_t_choices q_t_ringers q_t_readings q_t_sheets t_traced t_lastFault 3 y24 h25 _) (cwV 1 hts gX8_cell_X8_lostBy rfl rfl rfl (by decide +kernel) ⟨(Nat.le_of_ble_eq_true rfl), (Nat.le_of_ble_eq_true rfl)⟩) (pre_V hK hP hD [0] rfl rfl rfl rfl) rfl rfl hl.1 rfl (lv_room (Nat.le_of_ble_eq_true rfl)) dX8_cell_69 ⟨Nat.zero_le _, Nat.zero_le _⟩) hP hD hS hA [0] [1, 2, 3, 4, 5, 6, 7, 8, 9] [9, 0, 1, 2, 3, 4, 5, 6, 7, 8] rfl rfl rfl (by decide) rfl rfl (fun H locs hP hD hS => ?_)
              have hM := (Option.some.inj hM)
              subst hM
              exact rt_l hx hb hr hlocks hP hD hS dX8_cell_72
          · have hM := (o_if hM).2 c16
            refine lv_aload_n hx hb dX8_cell_51 rfl (lv_at hl 1 rfl) ?_
            refine lv_iconst (v := 1) hx hb dX8_cell_52 (by decide) ?_
            obtain ⟨y26, h27, hM⟩ := o_bd hM
            refine af_l (ws2 := (w_Tq_cell cI cJ cS q_t q_t_plan q_t_counter q_t_choices q_t_ringers q_t_readings q_t_sheets q_t_sh0 q_t_sh0_cells q_t_sh1 q_t_sh1_cells q_t_sh2 q_t_sh2_cells q_t_sh3 q_t_sh3_cells t_traced y26.2 t_sh_lane t_sh_size t_sh_cells)) (va_runV (As := [.int 1]) (rest := []) ⟨hx, hb, hml, hown, hts⟩ (c_Tq_lostBy l D cI cJ cS q_t q_t_plan q_t_counter q_t_choices q_t_ringers q_t_readings q_t_sheets t_traced t_lastFault 1 y26 h27 _) (cwV 1 hts gX8_cell_X8_lostBy rfl rfl rfl (by decide +kernel) ⟨(Nat.le_of_ble_eq_true rfl), (Nat.le_of_ble_eq_true rfl)⟩) (pre_V hK hP hD [0] rfl rfl rfl rfl) rfl rfl hl.1 rfl (lv_room (Nat.le_of_ble_eq_true rfl)) dX8_cell_53 ⟨Nat.zero_le _, Nat.zero_le _⟩) hP hD hS hA [0] [1, 2, 3, 4, 5, 6, 7, 8, 9] [9, 0, 1, 2, 3, 4, 5, 6, 7, 8] rfl rfl rfl (by decide) rfl rfl (fun H locs hP hD hS => ?_)
            have hM := (Option.some.inj hM)
            subst hM
            exact rt_l hx hb hr hlocks hP hD hS dX8_cell_56
        · have hM := (o_if hM).2 c13
          refine lv_aload_n hx hb dX8_cell_37 rfl (lv_at hl 1 rfl) ?_
          refine lv_iconst (v := 2) hx hb dX8_cell_38 (by decide) ?_
          obtain ⟨y28, h29, hM⟩ := o_bd hM
          refine af_l (ws2 := (w_Tq_cell cI cJ cS q_t q_t_plan q_t_counter q_t_choices q_t_ringers q_t_readings q_t_sheets q_t_sh0 q_t_sh0_cells q_t_sh1 q_t_sh1_cells q_t_sh2 q_t_sh2_cells q_t_sh3 q_t_sh3_cells t_traced y28.2 t_sh_lane t_sh_size t_sh_cells)) (va_runV (As := [.int 2]) (rest := []) ⟨hx, hb, hml, hown, hts⟩ (c_Tq_lostBy l D cI cJ cS q_t q_t_plan q_t_counter q_t_choices q_t_ringers q_t_readings q_t_sheets t_traced t_lastFault 2 y28 h29 _) (cwV 1 hts gX8_cell_X8_lostBy rfl rfl rfl (by decide +kernel) ⟨(Nat.le_of_ble_eq_true rfl), (Nat.le_of_ble_eq_true rfl)⟩) (pre_V hK hP hD [0] rfl rfl rfl rfl) rfl rfl hl.1 rfl (lv_room (Nat.le_of_ble_eq_true rfl)) dX8_cell_39 ⟨Nat.zero_le _, Nat.zero_le _⟩) hP hD hS hA [0] [1, 2, 3, 4, 5, 6, 7, 8, 9] [9, 0, 1, 2, 3, 4, 5, 6, 7, 8] rfl rfl rfl (by decide) rfl rfl (fun H locs hP hD hS => ?_)
          have hM := (Option.some.inj hM)
          subst hM
          exact rt_l hx hb hr hlocks hP hD hS dX8_cell_42
    · have hM := (o_if hM).1 c8
      refine lv_aload_n hx hb dX8_cell_14 rfl (lv_at hl 0 rfl) ?_
      refine lv_iconst (v := 0) hx hb dX8_cell_15 (by decide) ?_
      obtain ⟨y30, h31, hM⟩ := o_bd hM
      refine af_l (ws2 := (w_Tq_cell cI cJ cS q_t q_t_plan q_t_counter q_t_choices q_t_ringers q_t_readings q_t_sheets q_t_sh0 q_t_sh0_cells q_t_sh1 q_t_sh1_cells q_t_sh2 q_t_sh2_cells q_t_sh3 q_t_sh3_cells t_traced y30.2 t_sh_lane t_sh_size t_sh_cells)) (va_runV (As := [.int 0]) (rest := []) ⟨hx, hb, hml, hown, hts⟩ (c_Tq_lostBy l D cI cJ cS q_t q_t_plan q_t_counter q_t_choices q_t_ringers q_t_readings q_t_sheets t_traced t_lastFault 0 y30 h31 _) (cwV 1 hts gX8_cell_X8_lostBy rfl rfl rfl (by decide +kernel) ⟨(Nat.le_of_ble_eq_true rfl), (Nat.le_of_ble_eq_true rfl)⟩) (pre_V hK hP hD [0] rfl rfl rfl rfl) rfl rfl hl.1 rfl (lv_room (Nat.le_of_ble_eq_true rfl)) dX8_cell_16 ⟨Nat.zero_le _, Nat.zero_le _⟩) hP hD hS hA [0] [1, 2, 3, 4, 5, 6, 7, 8, 9] [9, 0, 1, 2, 3, 4, 5, 6, 7, 8] rfl rfl rfl (by decide) rfl rfl (fun H locs hP hD hS => ?_)
      have hM := (Option.some.inj hM)
      subst hM
      exact rt_l hx hb hr hlocks hP hD hS dX8_cell_19

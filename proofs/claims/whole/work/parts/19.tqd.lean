/-! ===== TurnQueue.copy ===== -/
abbrev w_Tq_copy (cI cJ cS : ClassId) (q_t : Nat) (q_t_plan : Nat) (q_t_counter : Nat) (q_t_choices : Nat) (q_t_ringers : Nat) (q_t_readings : Nat) (q_t_sheets : Nat) (q_t_sh0 : Nat) (q_t_sh0_cells : Nat) (q_t_sh1 : Nat) (q_t_sh1_cells : Nat) (q_t_sh2 : Nat) (q_t_sh2_cells : Nat) (q_t_sh3 : Nat) (q_t_sh3_cells : Nat) (t_traced : Int32) (t_lastFault : Int32) (t_sh_lane : Nat → Int32) (t_sh_size : Nat → Int32) (t_sh_cells : Nat → Nat → Int32) : va_W := [(q_t, .inr (7, [.ref q_t_plan, .ref q_t_counter, .ref q_t_choices, .ref q_t_ringers, .ref q_t_readings, .ref q_t_sheets, .int t_traced, .int t_lastFault])), (q_t_sheets, arS cS 4 (a4 q_t_sh0 q_t_sh1 q_t_sh2 q_t_sh3)), (q_t_sh0, .inr (6, [.ref q_t_sh0_cells, .int (t_sh_lane 0), .int (t_sh_size 0)])), (q_t_sh0_cells, ar cI 60 (t_sh_cells 0)), (q_t_sh1, .inr (6, [.ref q_t_sh1_cells, .int (t_sh_lane 1), .int (t_sh_size 1)])), (q_t_sh1_cells, ar cI 60 (t_sh_cells 1)), (q_t_sh2, .inr (6, [.ref q_t_sh2_cells, .int (t_sh_lane 2), .int (t_sh_size 2)])), (q_t_sh2_cells, ar cI 60 (t_sh_cells 2)), (q_t_sh3, .inr (6, [.ref q_t_sh3_cells, .int (t_sh_lane 3), .int (t_sh_size 3)])), (q_t_sh3_cells, ar cI 60 (t_sh_cells 3))]
abbrev rm_Tq_copy : Room := { frames := 1, cells := 0, slots := 0, locals := 26 }
noncomputable def Tq_copy (p_k : Int32) (p_i : Int32) (p_other : Int32) (p_j : Int32) (p_n : Int32) (t_sh_lane : Nat → Int32) (t_sh_size : Nat → Int32) (t_lastFault : Int32) (t_sh_cells : Nat → Nat → Int32) : Option (Int32 × Int32 × (Nat → Nat → Int32)) :=
  (Tq_isSheet p_k).bind fun y1 =>
  if y1 = 0 then
    (Tq_faultless (-1) t_lastFault).bind fun y4 =>
    some (y4.1, y4.2, t_sh_cells)
  else
    (Tq_isSheet p_other).bind fun y6 =>
    if y6 = 0 then
      (Tq_faultless (-1) t_lastFault).bind fun y45 =>
      some (y45.1, y45.2, t_sh_cells)
    else
      if ck p_k 4 = true then
        lt p_k.toNatClampNeg fun j10 =>
        if ck p_other 4 = true then
          lt p_other.toNatClampNeg fun j12 =>
          (Sh_hasNothing (t_sh_lane j10)).bind fun y13 =>
          if y13 = 0 then
            (Sh_hasNothing (t_sh_lane j12)).bind fun y18 =>
            if y18 = 0 then
              (Sh_isOfAnother (t_sh_lane j10) (t_sh_lane j12)).bind fun y21 =>
              if y21 = 0 then
                (Sh_holds p_i p_n (t_sh_size j10)).bind fun y24 =>
                if y24 = 0 then
                  (Tq_faulted 3 t_lastFault).bind fun y27 =>
                  some (y27.1, y27.2, t_sh_cells)
                else
                  (Sh_holds p_j p_n (t_sh_size j12)).bind fun y29 =>
                  if y29 = 0 then
                    (Tq_faulted 3 t_lastFault).bind fun y39 =>
                    some (y39.1, y39.2, t_sh_cells)
                  else
                    if ¬ p_i < 0 then
                      if ¬ p_j < 0 then
                        if ¬ p_n < 0 then
                          if p_i.toNatClampNeg + p_n.toNatClampNeg ≤ 60 then
                            if p_j.toNatClampNeg + p_n.toNatClampNeg ≤ 60 then
                              (Tq_faultless p_n t_lastFault).bind fun y37 =>
                              some (y37.1, y37.2, va_up t_sh_cells j12 (va_cpy (t_sh_cells j10) (t_sh_cells j12) p_i.toNatClampNeg p_j.toNatClampNeg p_n.toNatClampNeg))
                            else none
                          else none
                        else none
                      else none
                    else none
              else
                (Tq_faulted 2 t_lastFault).bind fun y41 =>
                some (y41.1, y41.2, t_sh_cells)
            else
              (Tq_faulted 1 t_lastFault).bind fun y43 =>
              some (y43.1, y43.2, t_sh_cells)
          else
            (Tq_faulted 1 t_lastFault).bind fun y16 =>
            some (y16.1, y16.2, t_sh_cells)
        else none
      else none
set_option maxRecDepth 100000 in
set_option maxHeartbeats 4000000 in
theorem c_Tq_copy (l : Launch) (D : va_G) (cI cJ cS : ClassId) (q_t q_t_plan q_t_counter q_t_choices q_t_ringers q_t_readings q_t_sheets q_t_sh0 q_t_sh0_cells q_t_sh1 q_t_sh1_cells q_t_sh2 q_t_sh2_cells q_t_sh3 q_t_sh3_cells : Nat) (t_traced : Int32) (t_lastFault : Int32) (t_sh_lane : Nat → Int32) (t_sh_size : Nat → Int32) (t_sh_cells : Nat → Nat → Int32) (p_k : Int32) (p_i : Int32) (p_other : Int32) (p_j : Int32) (p_n : Int32) (o : Int32 × Int32 × (Nat → Nat → Int32)) (hM : Tq_copy p_k p_i p_other p_j p_n t_sh_lane t_sh_size t_lastFault t_sh_cells = some o) : Ci l yX8_copy wsX8_copy rm_Tq_copy D cI cJ cS [.ref q_t, .int p_k, .int p_i, .int p_other, .int p_j, .int p_n] (w_Tq_copy cI cJ cS q_t q_t_plan q_t_counter q_t_choices q_t_ringers q_t_readings q_t_sheets q_t_sh0 q_t_sh0_cells q_t_sh1 q_t_sh1_cells q_t_sh2 q_t_sh2_cells q_t_sh3 q_t_sh3_cells t_traced t_lastFault t_sh_lane t_sh_size t_sh_cells) (w_Tq_copy cI cJ cS q_t q_t_plan q_t_counter q_t_choices q_t_ringers q_t_readings q_t_sheets q_t_sh0 q_t_sh0_cells q_t_sh1 q_t_sh1_cells q_t_sh2 q_t_sh2_cells q_t_sh3 q_t_sh3_cells t_traced o.2.1 t_sh_lane t_sh_size o.2.2) o.1 := by
  refine Ci.of (cc := cX8_copy) (maxL := 8) (ret := (some .int)) (by decide) rfl (Nat.le_of_ble_eq_true rfl) ?_
  intro p e s m args below meth c A ls hE
  obtain ⟨hx, hb, hr, hml, hown, hts, hlocks, hK, hA, hP, hD, hS, hl⟩ := hE
  have hown : s.vm.findClass RX8 = some m.cls := hown
  have hl : lv_has ls 8 [(0, .ref q_t), (1, .int p_k), (2, .int p_i), (3, .int p_other), (4, .int p_j), (5, .int p_n)] := hl
  have iX8 : ∀ w ∈ u_ws RX8 TX8 8, w ∈ wsX8_copy := by decide +kernel
  have iX6 : ∀ w ∈ u_ws RX6 TX6 3, w ∈ wsX8_copy := by decide +kernel
  have k0 := hts (.fieldLink RX8 48 "TurnQueue" "sheets" "[LTurnQueue$Sheet;") (by decide +kernel)
  have k1 := hts (.methodLink RX8 231 arraycopyName) (by decide +kernel)
  have k2 := hts (.native arraycopyName) (by decide +kernel)
  have k3 := hts (.static arraycopyName) (by decide +kernel)
  have k4 := hts (.initialized "java/lang/System") (by decide +kernel)
  unfold Tq_copy at hM
  refine lv_iload_n hx hb dX8_copy_0 rfl (lv_at hl 1 rfl) ?_
  obtain ⟨y1, h2, hM⟩ := o_bd hM
  refine af_i (ws2 := (w_Tq_copy cI cJ cS q_t q_t_plan q_t_counter q_t_choices q_t_ringers q_t_readings q_t_sheets q_t_sh0 q_t_sh0_cells q_t_sh1 q_t_sh1_cells q_t_sh2 q_t_sh2_cells q_t_sh3 q_t_sh3_cells t_traced t_lastFault t_sh_lane t_sh_size t_sh_cells)) (va_runS (As := [.int p_k]) (rest := []) ⟨hx, hb, hml, hown, hts⟩ (c_Tq_isSheet l D cI cJ cS p_k y1 h2 _) (va_cwS 1 hts gX8_copy_X8_isSheet rfl rfl rfl (by decide +kernel) ⟨(Nat.le_of_ble_eq_true rfl), (Nat.le_of_ble_eq_true rfl)⟩) (pre_S hK hP hD [] rfl rfl) rfl rfl hl.1 rfl (lv_room (Nat.le_of_ble_eq_true rfl)) dX8_copy_1 ⟨Nat.zero_le _, Nat.zero_le _⟩) hP hD hS hA [] [0, 1, 2, 3, 4, 5, 6, 7, 8, 9] [0, 1, 2, 3, 4, 5, 6, 7, 8, 9] rfl rfl rfl (by decide) rfl rfl (fun H locs hP hD hS => ?_)
  refine lv_if_eq (tgt := 14) hx hb dX8_copy_4 (by decide) (fun c3 => ?_) (fun c3 => ?_)
  · have hM := (o_if hM).1 c3
    refine lv_aload_n hx hb dX8_copy_14 rfl (lv_at hl 0 rfl) ?_
    refine lv_iconst (v := (-1)) hx hb dX8_copy_15 (by decide) ?_
    obtain ⟨y4, h5, hM⟩ := o_bd hM
    refine af_i (ws2 := (w_Tq_copy cI cJ cS q_t q_t_plan q_t_counter q_t_choices q_t_ringers q_t_readings q_t_sheets q_t_sh0 q_t_sh0_cells q_t_sh1 q_t_sh1_cells q_t_sh2 q_t_sh2_cells q_t_sh3 q_t_sh3_cells t_traced y4.2 t_sh_lane t_sh_size t_sh_cells)) (va_runV (As := [.int (-1)]) (rest := []) ⟨hx, hb, hml, hown, hts⟩ (c_Tq_faultless l D cI cJ cS q_t q_t_plan q_t_counter q_t_choices q_t_ringers q_t_readings q_t_sheets t_traced t_lastFault (-1) y4 h5 _) (cwV 1 hts gX8_copy_X8_faultless rfl rfl rfl (by decide +kernel) ⟨(Nat.le_of_ble_eq_true rfl), (Nat.le_of_ble_eq_true rfl)⟩) (pre_V hK hP hD [0] rfl rfl rfl rfl) rfl rfl hl.1 rfl (lv_room (Nat.le_of_ble_eq_true rfl)) dX8_copy_16 ⟨Nat.zero_le _, Nat.zero_le _⟩) hP hD hS hA [0] [1, 2, 3, 4, 5, 6, 7, 8, 9] [9, 0, 1, 2, 3, 4, 5, 6, 7, 8] rfl rfl rfl (by decide) rfl rfl (fun H locs hP hD hS => ?_)
    have hM := (Option.some.inj hM)
    subst hM
    exact rt_i hx hb hr hlocks hP hD hS dX8_copy_19
  · have hM := (o_if hM).2 c3
    refine lv_iload_n hx hb dX8_copy_7 rfl (lv_at hl 3 rfl) ?_
    obtain ⟨y6, h7, hM⟩ := o_bd hM
    refine af_i (ws2 := (w_Tq_copy cI cJ cS q_t q_t_plan q_t_counter q_t_choices q_t_ringers q_t_readings q_t_sheets q_t_sh0 q_t_sh0_cells q_t_sh1 q_t_sh1_cells q_t_sh2 q_t_sh2_cells q_t_sh3 q_t_sh3_cells t_traced t_lastFault t_sh_lane t_sh_size t_sh_cells)) (va_runS (As := [.int p_other]) (rest := []) ⟨hx, hb, hml, hown, hts⟩ (c_Tq_isSheet l D cI cJ cS p_other y6 h7 _) (va_cwS 1 hts gX8_copy_X8_isSheet rfl rfl rfl (by decide +kernel) ⟨(Nat.le_of_ble_eq_true rfl), (Nat.le_of_ble_eq_true rfl)⟩) (pre_S hK hP hD [] rfl rfl) rfl rfl hl.1 rfl (lv_room (Nat.le_of_ble_eq_true rfl)) dX8_copy_8 ⟨Nat.zero_le _, Nat.zero_le _⟩) hP hD hS hA [] [0, 1, 2, 3, 4, 5, 6, 7, 8, 9] [0, 1, 2, 3, 4, 5, 6, 7, 8, 9] rfl rfl rfl (by decide) rfl rfl (fun H locs hP hD hS => ?_)
    refine lv_if_ne (tgt := 20) hx hb dX8_copy_11 (by decide) (fun c8 => ?_) (fun c8 => ?_)
    · have hM := (o_if hM).2 c8
      refine lv_aload_n hx hb dX8_copy_20 rfl (lv_at hl 0 rfl) ?_
      refine va_get (ci := 7) (v := .ref q_t_sheets) (C := RX8) (T := TX8) (N := 8) hx hb hts iX8 hown hK.1 hP 0 rfl rfl 5 (Nat.le_of_ble_eq_true rfl) k0 (fun _ h9 => h9) rfl dX8_copy_21 ?_
      refine lv_iload_n hx hb dX8_copy_24 rfl (lv_at hl 1 rfl) ?_
      obtain ⟨h9, hM⟩ := o_ck hM
      refine va_aldq hx hb hK.1 hP 1 2 rfl rfl h9 dX8_copy_25 ?_
      obtain ⟨j10, ej10⟩ : ∃ y : Nat, y = p_k.toNatClampNeg := ⟨_, rfl⟩
      have hM := o_lt hM j10 ej10
      have hj10 : j10 < 4 := by rw [ej10]; exact ck_lt h9
      rw [← ej10]
      rcases (show j10 = 0 ∨ j10 = 1 ∨ j10 = 2 ∨ j10 = 3 by omega) with rfl | rfl | rfl | rfl
      · refine W.eq (g2 := F0 m 26 ls [.ref q_t_sh0]) rfl ?_
        refine lv_astore (lv' := [(6, .ref q_t_sh0), (0, .ref q_t), (1, .int p_k), (2, .int p_i), (3, .int p_other), (4, .int p_j), (5, .int p_n)]) hx hb dX8_copy_26 hl (Nat.le_of_ble_eq_true rfl) rfl (fun ls hl => ?_)
        refine lv_aload_n hx hb dX8_copy_28 rfl (lv_at hl 1 rfl) ?_
        refine va_get (ci := 7) (v := .ref q_t_sheets) (C := RX8) (T := TX8) (N := 8) hx hb hts iX8 hown hK.1 hP 0 rfl rfl 5 (Nat.le_of_ble_eq_true rfl) k0 (fun _ h9 => h9) rfl dX8_copy_29 ?_
        refine lv_iload_n hx hb dX8_copy_32 rfl (lv_at hl 4 rfl) ?_
        obtain ⟨h11, hM⟩ := o_ck hM
        refine va_aldq hx hb hK.1 hP 1 2 rfl rfl h11 dX8_copy_33 ?_
        obtain ⟨j12, ej12⟩ : ∃ y : Nat, y = p_other.toNatClampNeg := ⟨_, rfl⟩
        have hM := o_lt hM j12 ej12
        have hj12 : j12 < 4 := by rw [ej12]; exact ck_lt h11
        rw [← ej12]
        rcases (show j12 = 0 ∨ j12 = 1 ∨ j12 = 2 ∨ j12 = 3 by omega) with rfl | rfl | rfl | rfl
        · refine W.eq (g2 := F0 m 34 ls [.ref q_t_sh0]) rfl ?_
          refine lv_astore (lv' := [(7, .ref q_t_sh0), (6, .ref q_t_sh0), (0, .ref q_t), (1, .int p_k), (2, .int p_i), (3, .int p_other), (4, .int p_j), (5, .int p_n)]) hx hb dX8_copy_34 hl (Nat.le_of_ble_eq_true rfl) rfl (fun ls hl => ?_)
          refine lv_aload hx hb dX8_copy_36 (lv_at hl 1 rfl) ?_
          obtain ⟨y13, h14, hM⟩ := o_bd hM
          refine af_i (ws2 := (w_Tq_copy cI cJ cS q_t q_t_plan q_t_counter q_t_choices q_t_ringers q_t_readings q_t_sheets q_t_sh0 q_t_sh0_cells q_t_sh1 q_t_sh1_cells q_t_sh2 q_t_sh2_cells q_t_sh3 q_t_sh3_cells t_traced t_lastFault t_sh_lane t_sh_size t_sh_cells)) (va_runV (As := []) (rest := []) ⟨hx, hb, hml, hown, hts⟩ (c_Sh_hasNothing l D cI cJ cS q_t_sh0 q_t_sh0_cells (t_sh_lane 0) (t_sh_size 0) y13 h14 _) (cwV 0 hts gX8_copy_X6_hasNothing rfl rfl rfl (by decide +kernel) ⟨(Nat.le_of_ble_eq_true rfl), (Nat.le_of_ble_eq_true rfl)⟩) (pre_V hK hP hD [2] rfl rfl rfl rfl) rfl rfl hl.1 rfl (lv_room (Nat.le_of_ble_eq_true rfl)) dX8_copy_38 ⟨Nat.zero_le _, Nat.zero_le _⟩) hP hD hS hA [2] [0, 1, 3, 4, 5, 6, 7, 8, 9] [0, 1, 9, 2, 3, 4, 5, 6, 7, 8] rfl rfl rfl (by decide) rfl rfl (fun H locs hP hD hS => ?_)
          refine lv_if_ne (tgt := 52) hx hb dX8_copy_41 (by decide) (fun c15 => ?_) (fun c15 => ?_)
          · have hM := (o_if hM).2 c15
            refine lv_aload_n hx hb dX8_copy_52 rfl (lv_at hl 2 rfl) ?_
            refine lv_iconst (v := 1) hx hb dX8_copy_53 (by decide) ?_
            obtain ⟨y16, h17, hM⟩ := o_bd hM
            refine af_i (ws2 := (w_Tq_copy cI cJ cS q_t q_t_plan q_t_counter q_t_choices q_t_ringers q_t_readings q_t_sheets q_t_sh0 q_t_sh0_cells q_t_sh1 q_t_sh1_cells q_t_sh2 q_t_sh2_cells q_t_sh3 q_t_sh3_cells t_traced y16.2 t_sh_lane t_sh_size t_sh_cells)) (va_runV (As := [.int 1]) (rest := []) ⟨hx, hb, hml, hown, hts⟩ (c_Tq_faulted l D cI cJ cS q_t q_t_plan q_t_counter q_t_choices q_t_ringers q_t_readings q_t_sheets t_traced t_lastFault 1 y16 h17 _) (cwV 1 hts gX8_copy_X8_faulted rfl rfl rfl (by decide +kernel) ⟨(Nat.le_of_ble_eq_true rfl), (Nat.le_of_ble_eq_true rfl)⟩) (pre_V hK hP hD [0] rfl rfl rfl rfl) rfl rfl hl.1 rfl (lv_room (Nat.le_of_ble_eq_true rfl)) dX8_copy_54 ⟨Nat.zero_le _, Nat.zero_le _⟩) hP hD hS hA [0] [1, 2, 3, 4, 5, 6, 7, 8, 9] [9, 0, 1, 2, 3, 4, 5, 6, 7, 8] rfl rfl rfl (by decide) rfl rfl (fun H locs hP hD hS => ?_)
            have hM := (Option.some.inj hM)
            subst hM
            exact rt_i hx hb hr hlocks hP hD hS dX8_copy_57
          · have hM := (o_if hM).1 c15
            refine lv_aload hx hb dX8_copy_44 (lv_at hl 0 rfl) ?_
            obtain ⟨y18, h19, hM⟩ := o_bd hM
            refine af_i (ws2 := (w_Tq_copy cI cJ cS q_t q_t_plan q_t_counter q_t_choices q_t_ringers q_t_readings q_t_sheets q_t_sh0 q_t_sh0_cells q_t_sh1 q_t_sh1_cells q_t_sh2 q_t_sh2_cells q_t_sh3 q_t_sh3_cells t_traced t_lastFault t_sh_lane t_sh_size t_sh_cells)) (va_runV (As := []) (rest := []) ⟨hx, hb, hml, hown, hts⟩ (c_Sh_hasNothing l D cI cJ cS q_t_sh0 q_t_sh0_cells (t_sh_lane 0) (t_sh_size 0) y18 h19 _) (cwV 0 hts gX8_copy_X6_hasNothing rfl rfl rfl (by decide +kernel) ⟨(Nat.le_of_ble_eq_true rfl), (Nat.le_of_ble_eq_true rfl)⟩) (pre_V hK hP hD [2] rfl rfl rfl rfl) rfl rfl hl.1 rfl (lv_room (Nat.le_of_ble_eq_true rfl)) dX8_copy_46 ⟨Nat.zero_le _, Nat.zero_le _⟩) hP hD hS hA [2] [0, 1, 3, 4, 5, 6, 7, 8, 9] [0, 1, 9, 2, 3, 4, 5, 6, 7, 8] rfl rfl rfl (by decide) rfl rfl (fun H locs hP hD hS => ?_)
            refine lv_if_eq (tgt := 58) hx hb dX8_copy_49 (by decide) (fun c20 => ?_) (fun c20 => ?_)
            · have hM := (o_if hM).1 c20
              refine lv_aload hx hb dX8_copy_58 (lv_at hl 0 rfl) ?_
              refine lv_aload hx hb dX8_copy_60 (lv_at hl 1 rfl) ?_
              refine va_getN (ci := 6) (v := .int (t_sh_lane 0)) (C := RX6) (T := TX6) (N := 3) (host := RX8) hx hb hts iX6 hown hK.1 hP 2 rfl rfl 1 (Nat.le_of_ble_eq_true rfl) (va_Nw.use rfl hK.2.2.2.2.2.2.2.2.2.2.2.2.2.2.2.2.2.1) (fun _ h9 => h9) rfl dX8_copy_62 ?_
              obtain ⟨y21, h22, hM⟩ := o_bd hM
              refine af_i (ws2 := (w_Tq_copy cI cJ cS q_t q_t_plan q_t_counter q_t_choices q_t_ringers q_t_readings q_t_sheets q_t_sh0 q_t_sh0_cells q_t_sh1 q_t_sh1_cells q_t_sh2 q_t_sh2_cells q_t_sh3 q_t_sh3_cells t_traced t_lastFault t_sh_lane t_sh_size t_sh_cells)) (va_runV (As := [.int (t_sh_lane 0)]) (rest := []) ⟨hx, hb, hml, hown, hts⟩ (c_Sh_isOfAnother l D cI cJ cS q_t_sh0 q_t_sh0_cells (t_sh_lane 0) (t_sh_size 0) (t_sh_lane 0) y21 h22 _) (cwV 1 hts gX8_copy_X6_isOfAnother rfl rfl rfl (by decide +kernel) ⟨(Nat.le_of_ble_eq_true rfl), (Nat.le_of_ble_eq_true rfl)⟩) (pre_V hK hP hD [2] rfl rfl rfl rfl) rfl rfl hl.1 rfl (lv_room (Nat.le_of_ble_eq_true rfl)) dX8_copy_65 ⟨Nat.zero_le _, Nat.zero_le _⟩) hP hD hS hA [2] [0, 1, 3, 4, 5, 6, 7, 8, 9] [0, 1, 9, 2, 3, 4, 5, 6, 7, 8] rfl rfl rfl (by decide) rfl rfl (fun H locs hP hD hS => ?_)
              refine lv_if_eq (tgt := 77) hx hb dX8_copy_68 (by decide) (fun c23 => ?_) (fun c23 => ?_)
              · have hM := (o_if hM).1 c23
                refine lv_aload hx hb dX8_copy_77 (lv_at hl 1 rfl) ?_
                refine lv_iload_n hx hb dX8_copy_79 rfl (lv_at hl 4 rfl) ?_
                refine lv_iload hx hb dX8_copy_80 (lv_at hl 7 rfl) ?_
                obtain ⟨y24, h25, hM⟩ := o_bd hM
                refine af_i (ws2 := (w_Tq_copy cI cJ cS q_t q_t_plan q_t_counter q_t_choices q_t_ringers q_t_readings q_t_sheets q_t_sh0 q_t_sh0_cells q_t_sh1 q_t_sh1_cells q_t_sh2 q_t_sh2_cells q_t_sh3 q_t_sh3_cells t_traced t_lastFault t_sh_lane t_sh_size t_sh_cells)) (va_runV (As := [.int p_i, .int p_n]) (rest := []) ⟨hx, hb, hml, hown, hts⟩ (c_Sh_holds l D cI cJ cS q_t_sh0 q_t_sh0_cells (t_sh_lane 0) (t_sh_size 0) p_i p_n y24 h25 _) (cwV 2 hts gX8_copy_X6_holds rfl rfl rfl (by decide +kernel) ⟨(Nat.le_of_ble_eq_true rfl), (Nat.le_of_ble_eq_true rfl)⟩) (pre_V hK hP hD [2] rfl rfl rfl rfl) rfl rfl hl.1 rfl (lv_room (Nat.le_of_ble_eq_true rfl)) dX8_copy_82 ⟨Nat.zero_le _, Nat.zero_le _⟩) hP hD hS hA [2] [0, 1, 3, 4, 5, 6, 7, 8, 9] [0, 1, 9, 2, 3, 4, 5, 6, 7, 8] rfl rfl rfl (by decide) rfl rfl (fun H locs hP hD hS => ?_)
                refine lv_if_eq (tgt := 100) hx hb dX8_copy_85 (by decide) (fun c26 => ?_) (fun c26 => ?_)
                · have hM := (o_if hM).1 c26
                  refine lv_aload_n hx hb dX8_copy_100 rfl (lv_at hl 2 rfl) ?_
                  refine lv_iconst (v := 3) hx hb dX8_copy_101 (by decide) ?_
                  obtain ⟨y27, h28, hM⟩ := o_bd hM
                  refine af_i (ws2 := (w_Tq_copy cI cJ cS q_t q_t_plan q_t_counter q_t_choices q_t_ringers q_t_readings q_t_sheets q_t_sh0 q_t_sh0_cells q_t_sh1 q_t_sh1_cells q_t_sh2 q_t_sh2_cells q_t_sh3 q_t_sh3_cells t_traced y27.2 t_sh_lane t_sh_size t_sh_cells)) (va_runV (As := [.int 3]) (rest := []) ⟨hx, hb, hml, hown, hts⟩ (c_Tq_faulted l D cI cJ cS q_t q_t_plan q_t_counter q_t_choices q_t_ringers q_t_readings q_t_sheets t_traced t_lastFault 3 y27 h28 _) (cwV 1 hts gX8_copy_X8_faulted rfl rfl rfl (by decide +kernel) ⟨(Nat.le_of_ble_eq_true rfl), (Nat.le_of_ble_eq_true rfl)⟩) (pre_V hK hP hD [0] rfl rfl rfl rfl) rfl rfl hl.1 rfl (lv_room (Nat.le_of_ble_eq_true rfl)) dX8_copy_102 ⟨Nat.zero_le _, Nat.zero_le _⟩) hP hD hS hA [0] [1, 2, 3, 4, 5, 6, 7, 8, 9] [9, 0, 1, 2, 3, 4, 5, 6, 7, 8] rfl rfl rfl (by decide) rfl rfl (fun H locs hP hD hS => ?_)
                  have hM := (Option.some.inj hM)
                  subst hM
                  exact rt_i hx hb hr hlocks hP hD hS dX8_copy_105
                · have hM := (o_if hM).2 c26
                  refine lv_aload hx hb dX8_copy_88 (lv_at hl 0 rfl) ?_
                  refine lv_iload hx hb dX8_copy_90 (lv_at hl 6 rfl) ?_
                  refine lv_iload hx hb dX8_copy_92 (lv_at hl 7 rfl) ?_
                  obtain ⟨y29, h30, hM⟩ := o_bd hM
                  refine af_i (ws2 := (w_Tq_copy cI cJ cS q_t q_t_plan q_t_counter q_t_choices q_t_ringers q_t_readings q_t_sheets q_t_sh0 q_t_sh0_cells q_t_sh1 q_t_sh1_cells q_t_sh2 q_t_sh2_cells q_t_sh3 q_t_sh3_cells t_traced t_lastFault t_sh_lane t_sh_size t_sh_cells)) (va_runV (As := [.int p_j, .int p_n]) (rest := []) ⟨hx, hb, hml, hown, hts⟩ (c_Sh_holds l D cI cJ cS q_t_sh0 q_t_sh0_cells (t_sh_lane 0) (t_sh_size 0) p_j p_n y29 h30 _) (cwV 2 hts gX8_copy_X6_holds rfl rfl rfl (by decide +kernel) ⟨(Nat.le_of_ble_eq_true rfl), (Nat.le_of_ble_eq_true rfl)⟩) (pre_V hK hP hD [2] rfl rfl rfl rfl) rfl rfl hl.1 rfl (lv_room (Nat.le_of_ble_eq_true rfl)) dX8_copy_94 ⟨Nat.zero_le _, Nat.zero_le _⟩) hP hD hS hA [2] [0, 1, 3, 4, 5, 6, 7, 8, 9] [0, 1, 9, 2, 3, 4, 5, 6, 7, 8] rfl rfl rfl (by decide) rfl rfl (fun H locs hP hD hS => ?_)
                  refine lv_if_ne (tgt := 106) hx hb dX8_copy_97 (by decide) (fun c31 => ?_) (fun c31 => ?_)
                  · have hM := (o_if hM).2 c31
                    refine lv_aload hx hb dX8_copy_106 (lv_at hl 1 rfl) ?_
                    refine va_getN (ci := 6) (v := .ref q_t_sh0_cells) (C := RX6) (T := TX6) (N := 3) (host := RX8) hx hb hts iX6 hown hK.1 hP 2 rfl rfl 0 (Nat.le_of_ble_eq_true rfl) (va_Nw.use rfl hK.2.2.2.2.2.2.2.2.2.2.2.2.2.2.2.2.2.2.1) (fun _ h9 => h9) rfl dX8_copy_108 ?_
                    refine lv_iload_n hx hb dX8_copy_111 rfl (lv_at hl 4 rfl) ?_
                    refine lv_aload hx hb dX8_copy_112 (lv_at hl 0 rfl) ?_
                    refine va_getN (ci := 6) (v := .ref q_t_sh0_cells) (C := RX6) (T := TX6) (N := 3) (host := RX8) hx hb hts iX6 hown hK.1 hP 2 rfl rfl 0 (Nat.le_of_ble_eq_true rfl) (va_Nw.use rfl hK.2.2.2.2.2.2.2.2.2.2.2.2.2.2.2.2.2.2.1) (fun _ h9 => h9) rfl dX8_copy_114 ?_
                    refine lv_iload hx hb dX8_copy_117 (lv_at hl 6 rfl) ?_
                    refine lv_iload hx hb dX8_copy_119 (lv_at hl 7 rfl) ?_
                    obtain ⟨h32, hM⟩ := o_gd hM
                    obtain ⟨h33, hM⟩ := o_gd hM
                    obtain ⟨h34, hM⟩ := o_gd hM
                    obtain ⟨h35, hM⟩ := o_gd hM
                    obtain ⟨h36, hM⟩ := o_gd hM
                    refine va_copyi hx hb (by rw [hml]; exact hl.1.symm) hown k1 k2 k3 k4 hK.1 hP hD hS 3 3 0 0 rfl rfl rfl rfl rfl h32 h33 h34 h35 h36 (fun _ _ => rfl) (Nat.le_of_ble_eq_true rfl) (Nat.le_of_ble_eq_true rfl) dX8_copy_121 (fun H locs hP hD hS => ?_)
                    have hP : va_P D vwCl (w_Tq_copy cI cJ cS q_t q_t_plan q_t_counter q_t_choices q_t_ringers q_t_readings q_t_sheets q_t_sh0 q_t_sh0_cells q_t_sh1 q_t_sh1_cells q_t_sh2 q_t_sh2_cells q_t_sh3 q_t_sh3_cells t_traced t_lastFault t_sh_lane t_sh_size (va_up t_sh_cells 0 (va_cpy (t_sh_cells 0) (t_sh_cells 0) p_i.toNatClampNeg p_j.toNatClampNeg p_n.toNatClampNeg))) H := hP
                    have hD : va_D A (w_Tq_copy cI cJ cS q_t q_t_plan q_t_counter q_t_choices q_t_ringers q_t_readings q_t_sheets q_t_sh0 q_t_sh0_cells q_t_sh1 q_t_sh1_cells q_t_sh2 q_t_sh2_cells q_t_sh3 q_t_sh3_cells t_traced t_lastFault t_sh_lane t_sh_size (va_up t_sh_cells 0 (va_cpy (t_sh_cells 0) (t_sh_cells 0) p_i.toNatClampNeg p_j.toNatClampNeg p_n.toNatClampNeg))) := hD
                    refine lv_aload_n hx hb dX8_copy_124 rfl (lv_at hl 2 rfl) ?_
                    refine lv_iload hx hb dX8_copy_125 (lv_at hl 7 rfl) ?_
                    obtain ⟨y37, h38, hM⟩ := o_bd hM
                    refine af_i (ws2 := (w_Tq_copy cI cJ cS q_t q_t_plan q_t_counter q_t_choices q_t_ringers q_t_readings q_t_sheets q_t_sh0 q_t_sh0_cells q_t_sh1 q_t_sh1_cells q_t_sh2 q_t_sh2_cells q_t_sh3 q_t_sh3_cells t_traced y37.2 t_sh_lane t_sh_size (va_up t_sh_cells 0 (va_cpy (t_sh_cells 0) (t_sh_cells 0) p_i.toNatClampNeg p_j.toNatClampNeg p_n.toNatClampNeg)))) (va_runV (As := [.int p_n]) (rest := []) ⟨hx, hb, hml, hown, hts⟩ (c_Tq_faultless l D cI cJ cS q_t q_t_plan q_t_counter q_t_choices q_t_ringers q_t_readings q_t_sheets t_traced t_lastFault p_n y37 h38 _) (cwV 1 hts gX8_copy_X8_faultless rfl rfl rfl (by decide +kernel) ⟨(Nat.le_of_ble_eq_true rfl), (Nat.le_of_ble_eq_true rfl)⟩) (pre_V hK hP hD [0] rfl rfl rfl rfl) rfl rfl hl.1 rfl (lv_room (Nat.le_of_ble_eq_true rfl)) dX8_copy_127 ⟨Nat.zero_le _, Nat.zero_le _⟩) hP hD hS hA [0] [1, 2, 3, 4, 5, 6, 7, 8, 9] [9, 0, 1, 2, 3, 4, 5, 6, 7, 8] rfl rfl rfl (by decide) rfl rfl (fun H locs hP hD hS => ?_)
                    have hM := (Option.some.inj hM)
                    subst hM
                    exact rt_i hx hb hr hlocks hP hD hS dX8_copy_130
                  · have hM := (o_if hM).1 c31
                    refine lv_aload_n hx hb dX8_copy_100 rfl (lv_at hl 2 rfl) ?_
                    refine lv_iconst (v := 3) hx hb dX8_copy_101 (by decide) ?_
                    obtain ⟨y39, h40, hM⟩ := o_bd hM
                    refine af_i (ws2 := (w_Tq_copy cI cJ cS q_t q_t_plan q_t_counter q_t_choices q_t_ringers q_t_readings q_t_sheets q_t_sh0 q_t_sh0_cells q_t_sh1 q_t_sh1_cells q_t_sh2 q_t_sh2_cells q_t_sh3 q_t_sh3_cells t_traced y39.2 t_sh_lane t_sh_size t_sh_cells)) (va_runV (As := [.int 3]) (rest := []) ⟨hx, hb, hml, hown, hts⟩ (c_Tq_faulted l D cI cJ cS q_t q_t_plan q_t_counter q_t_choices q_t_ringers q_t_readings q_t_sheets t_traced t_lastFault 3 y39 h40 _) (cwV 1 hts gX8_copy_X8_faulted rfl rfl rfl (by decide +kernel) ⟨(Nat.le_of_ble_eq_true rfl), (Nat.le_of_ble_eq_true rfl)⟩) (pre_V hK hP hD [0] rfl rfl rfl rfl) rfl rfl hl.1 rfl (lv_room (Nat.le_of_ble_eq_true rfl)) dX8_copy_102 ⟨Nat.zero_le _, Nat.zero_le _⟩) hP hD hS hA [0] [1, 2, 3, 4, 5, 6, 7, 8, 9] [9, 0, 1, 2, 3, 4, 5, 6, 7, 8] rfl rfl rfl (by decide) rfl rfl (fun H locs hP hD hS => ?_)
                    have hM := (Option.some.inj hM)
                    subst hM
                    exact rt_i hx hb hr hlocks hP hD hS dX8_copy_105
              · have hM := (o_if hM).2 c23
                refine lv_aload_n hx hb dX8_copy_71 rfl (lv_at hl 2 rfl) ?_
                refine lv_iconst (v := 2) hx hb dX8_copy_72 (by decide) ?_
                obtain ⟨y41, h42, hM⟩ := o_bd hM
                refine af_i (ws2 := (w_Tq_copy cI cJ cS q_t q_t_plan q_t_counter q_t_choices q_t_ringers q_t_readings q_t_sheets q_t_sh0 q_t_sh0_cells q_t_sh1 q_t_sh1_cells q_t_sh2 q_t_sh2_cells q_t_sh3 q_t_sh3_cells t_traced y41.2 t_sh_lane t_sh_size t_sh_cells)) (va_runV (As := [.int 2]) (rest := []) ⟨hx, hb, hml, hown, hts⟩ (c_Tq_faulted l D cI cJ cS q_t q_t_plan q_t_counter q_t_choices q_t_ringers q_t_readings q_t_sheets t_traced t_lastFault 2 y41 h42 _) (cwV 1 hts gX8_copy_X8_faulted rfl rfl rfl (by decide +kernel) ⟨(Nat.le_of_ble_eq_true rfl), (Nat.le_of_ble_eq_true rfl)⟩) (pre_V hK hP hD [0] rfl rfl rfl rfl) rfl rfl hl.1 rfl (lv_room (Nat.le_of_ble_eq_true rfl)) dX8_copy_73 ⟨Nat.zero_le _, Nat.zero_le _⟩) hP hD hS hA [0] [1, 2, 3, 4, 5, 6, 7, 8, 9] [9, 0, 1, 2, 3, 4, 5, 6, 7, 8] rfl rfl rfl (by decide) rfl rfl (fun H locs hP hD hS => ?_)
                have hM := (Option.some.inj hM)
                subst hM
                exact rt_i hx hb hr hlocks hP hD hS dX8_copy_76
            · have hM := (o_if hM).2 c20
              refine lv_aload_n hx hb dX8_copy_52 rfl (lv_at hl 2 rfl) ?_
              refine lv_iconst (v := 1) hx hb dX8_copy_53 (by decide) ?_
              obtain ⟨y43, h44, hM⟩ := o_bd hM
              refine af_i (ws2 := (w_Tq_copy cI cJ cS q_t q_t_plan q_t_counter q_t_choices q_t_ringers q_t_readings q_t_sheets q_t_sh0 q_t_sh0_cells q_t_sh1 q_t_sh1_cells q_t_sh2 q_t_sh2_cells q_t_sh3 q_t_sh3_cells t_traced y43.2 t_sh_lane t_sh_size t_sh_cells)) (va_runV (As := [.int 1]) (rest := []) ⟨hx, hb, hml, hown, hts⟩ (c_Tq_faulted l D cI cJ cS q_t q_t_plan q_t_counter q_t_choices q_t_ringers q_t_readings q_t_sheets t_traced t_lastFault 1 y43 h44 _) (cwV 1 hts gX8_copy_X8_faulted rfl rfl rfl (by decide +kernel) ⟨(Nat.le_of_ble_eq_true rfl), (Nat.le_of_ble_eq_true rfl)⟩) (pre_V hK hP hD [0] rfl rfl rfl rfl) rfl rfl hl.1 rfl (lv_room (Nat.le_of_ble_eq_true rfl)) dX8_copy_54 ⟨Nat.zero_le _, Nat.zero_le _⟩) hP hD hS hA [0] [1, 2, 3, 4, 5, 6, 7, 8, 9] [9, 0, 1, 2, 3, 4, 5, 6, 7, 8] rfl rfl rfl (by decide) rfl rfl (fun H locs hP hD hS => ?_)
              have hM := (Option.some.inj hM)
              subst hM
              exact rt_i hx hb hr hlocks hP hD hS dX8_copy_57
        · refine W.eq (g2 := F0 m 34 ls [.ref q_t_sh1]) rfl ?_
          refine lv_astore (lv' := [(7, .ref q_t_sh1), (6, .ref q_t_sh0), (0, .ref q_t), (1, .int p_k), (2, .int p_i), (3, .int p_other), (4, .int p_j), (5, .int p_n)]) hx hb dX8_copy_34 hl (Nat.le_of_ble_eq_true rfl) rfl (fun ls hl => ?_)
          refine lv_aload hx hb dX8_copy_36 (lv_at hl 1 rfl) ?_
          obtain ⟨y13, h14, hM⟩ := o_bd hM
          refine af_i (ws2 := (w_Tq_copy cI cJ cS q_t q_t_plan q_t_counter q_t_choices q_t_ringers q_t_readings q_t_sheets q_t_sh0 q_t_sh0_cells q_t_sh1 q_t_sh1_cells q_t_sh2 q_t_sh2_cells q_t_sh3 q_t_sh3_cells t_traced t_lastFault t_sh_lane t_sh_size t_sh_cells)) (va_runV (As := []) (rest := []) ⟨hx, hb, hml, hown, hts⟩ (c_Sh_hasNothing l D cI cJ cS q_t_sh0 q_t_sh0_cells (t_sh_lane 0) (t_sh_size 0) y13 h14 _) (cwV 0 hts gX8_copy_X6_hasNothing rfl rfl rfl (by decide +kernel) ⟨(Nat.le_of_ble_eq_true rfl), (Nat.le_of_ble_eq_true rfl)⟩) (pre_V hK hP hD [2] rfl rfl rfl rfl) rfl rfl hl.1 rfl (lv_room (Nat.le_of_ble_eq_true rfl)) dX8_copy_38 ⟨Nat.zero_le _, Nat.zero_le _⟩) hP hD hS hA [2] [0, 1, 3, 4, 5, 6, 7, 8, 9] [0, 1, 9, 2, 3, 4, 5, 6, 7, 8] rfl rfl rfl (by decide) rfl rfl (fun H locs hP hD hS => ?_)
          refine lv_if_ne (tgt := 52) hx hb dX8_copy_41 (by decide) (fun c15 => ?_) (fun c15 => ?_)
          · have hM := (o_if hM).2 c15
            refine lv_aload_n hx hb dX8_copy_52 rfl (lv_at hl 2 rfl) ?_
            refine lv_iconst (v := 1) hx hb dX8_copy_53 (by decide) ?_
            obtain ⟨y16, h17, hM⟩ := o_bd hM
            refine af_i (ws2 := (w_Tq_copy cI cJ cS q_t q_t_plan q_t_counter q_t_choices q_t_ringers q_t_readings q_t_sheets q_t_sh0 q_t_sh0_cells q_t_sh1 q_t_sh1_cells q_t_sh2 q_t_sh2_cells q_t_sh3 q_t_sh3_cells t_traced y16.2 t_sh_lane t_sh_size t_sh_cells)) (va_runV (As := [.int 1]) (rest := []) ⟨hx, hb, hml, hown, hts⟩ (c_Tq_faulted l D cI cJ cS q_t q_t_plan q_t_counter q_t_choices q_t_ringers q_t_readings q_t_sheets t_traced t_lastFault 1 y16 h17 _) (cwV 1 hts gX8_copy_X8_faulted rfl rfl rfl (by decide +kernel) ⟨(Nat.le_of_ble_eq_true rfl), (Nat.le_of_ble_eq_true rfl)⟩) (pre_V hK hP hD [0] rfl rfl rfl rfl) rfl rfl hl.1 rfl (lv_room (Nat.le_of_ble_eq_true rfl)) dX8_copy_54 ⟨Nat.zero_le _, Nat.zero_le _⟩) hP hD hS hA [0] [1, 2, 3, 4, 5, 6, 7, 8, 9] [9, 0, 1, 2, 3, 4, 5, 6, 7, 8] rfl rfl rfl (by decide) rfl rfl (fun H locs hP hD hS => ?_)
            have hM := (Option.some.inj hM)
            subst hM
            exact rt_i hx hb hr hlocks hP hD hS dX8_copy_57
          · have hM := (o_if hM).1 c15
            refine lv_aload hx hb dX8_copy_44 (lv_at hl 0 rfl) ?_
            obtain ⟨y18, h19, hM⟩ := o_bd hM
            refine af_i (ws2 := (w_Tq_copy cI cJ cS q_t q_t_plan q_t_counter q_t_choices q_t_ringers q_t_readings q_t_sheets q_t_sh0 q_t_sh0_cells q_t_sh1 q_t_sh1_cells q_t_sh2 q_t_sh2_cells q_t_sh3 q_t_sh3_cells t_traced t_lastFault t_sh_lane t_sh_size t_sh_cells)) (va_runV (As := []) (rest := []) ⟨hx, hb, hml, hown, hts⟩ (c_Sh_hasNothing l D cI cJ cS q_t_sh1 q_t_sh1_cells (t_sh_lane 1) (t_sh_size 1) y18 h19 _) (cwV 0 hts gX8_copy_X6_hasNothing rfl rfl rfl (by decide +kernel) ⟨(Nat.le_of_ble_eq_true rfl), (Nat.le_of_ble_eq_true rfl)⟩) (pre_V hK hP hD [4] rfl rfl rfl rfl) rfl rfl hl.1 rfl (lv_room (Nat.le_of_ble_eq_true rfl)) dX8_copy_46 ⟨Nat.zero_le _, Nat.zero_le _⟩) hP hD hS hA [4] [0, 1, 2, 3, 5, 6, 7, 8, 9] [0, 1, 2, 3, 9, 4, 5, 6, 7, 8] rfl rfl rfl (by decide) rfl rfl (fun H locs hP hD hS => ?_)
            refine lv_if_eq (tgt := 58) hx hb dX8_copy_49 (by decide) (fun c20 => ?_) (fun c20 => ?_)
            · have hM := (o_if hM).1 c20
              refine lv_aload hx hb dX8_copy_58 (lv_at hl 0 rfl) ?_
              refine lv_aload hx hb dX8_copy_60 (lv_at hl 1 rfl) ?_
              refine va_getN (ci := 6) (v := .int (t_sh_lane 0)) (C := RX6) (T := TX6) (N := 3) (host := RX8) hx hb hts iX6 hown hK.1 hP 2 rfl rfl 1 (Nat.le_of_ble_eq_true rfl) (va_Nw.use rfl hK.2.2.2.2.2.2.2.2.2.2.2.2.2.2.2.2.2.1) (fun _ h9 => h9) rfl dX8_copy_62 ?_
              obtain ⟨y21, h22, hM⟩ := o_bd hM
              refine af_i (ws2 := (w_Tq_copy cI cJ cS q_t q_t_plan q_t_counter q_t_choices q_t_ringers q_t_readings q_t_sheets q_t_sh0 q_t_sh0_cells q_t_sh1 q_t_sh1_cells q_t_sh2 q_t_sh2_cells q_t_sh3 q_t_sh3_cells t_traced t_lastFault t_sh_lane t_sh_size t_sh_cells)) (va_runV (As := [.int (t_sh_lane 0)]) (rest := []) ⟨hx, hb, hml, hown, hts⟩ (c_Sh_isOfAnother l D cI cJ cS q_t_sh1 q_t_sh1_cells (t_sh_lane 1) (t_sh_size 1) (t_sh_lane 0) y21 h22 _) (cwV 1 hts gX8_copy_X6_isOfAnother rfl rfl rfl (by decide +kernel) ⟨(Nat.le_of_ble_eq_true rfl), (Nat.le_of_ble_eq_true rfl)⟩) (pre_V hK hP hD [4] rfl rfl rfl rfl) rfl rfl hl.1 rfl (lv_room (Nat.le_of_ble_eq_true rfl)) dX8_copy_65 ⟨Nat.zero_le _, Nat.zero_le _⟩) hP hD hS hA [4] [0, 1, 2, 3, 5, 6, 7, 8, 9] [0, 1, 2, 3, 9, 4, 5, 6, 7, 8] rfl rfl rfl (by decide) rfl rfl (fun H locs hP hD hS => ?_)
              refine lv_if_eq (tgt := 77) hx hb dX8_copy_68 (by decide) (fun c23 => ?_) (fun c23 => ?_)
              · have hM := (o_if hM).1 c23
                refine lv_aload hx hb dX8_copy_77 (lv_at hl 1 rfl) ?_
                refine lv_iload_n hx hb dX8_copy_79 rfl (lv_at hl 4 rfl) ?_
                refine lv_iload hx hb dX8_copy_80 (lv_at hl 7 rfl) ?_
                obtain ⟨y24, h25, hM⟩ := o_bd hM
                refine af_i (ws2 := (w_Tq_copy cI cJ cS q_t q_t_plan q_t_counter q_t_choices q_t_ringers q_t_readings q_t_sheets q_t_sh0 q_t_sh0_cells q_t_sh1 q_t_sh1_cells q_t_sh2 q_t_sh2_cells q_t_sh3 q_t_sh3_cells t_traced t_lastFault t_sh_lane t_sh_size t_sh_cells)) (va_runV (As := [.int p_i, .int p_n]) (rest := []) ⟨hx, hb, hml, hown, hts⟩ (c_Sh_holds l D cI cJ cS q_t_sh0 q_t_sh0_cells (t_sh_lane 0) (t_sh_size 0) p_i p_n y24 h25 _) (cwV 2 hts gX8_copy_X6_holds rfl rfl rfl (by decide +kernel) ⟨(Nat.le_of_ble_eq_true rfl), (Nat.le_of_ble_eq_true rfl)⟩) (pre_V hK hP hD [2] rfl rfl rfl rfl) rfl rfl hl.1 rfl (lv_room (Nat.le_of_ble_eq_true rfl)) dX8_copy_82 ⟨Nat.zero_le _, Nat.zero_le _⟩) hP hD hS hA [2] [0, 1, 3, 4, 5, 6, 7, 8, 9] [0, 1, 9, 2, 3, 4, 5, 6, 7, 8] rfl rfl rfl (by decide) rfl rfl (fun H locs hP hD hS => ?_)
                refine lv_if_eq (tgt := 100) hx hb dX8_copy_85 (by decide) (fun c26 => ?_) (fun c26 => ?_)
                · have hM := (o_if hM).1 c26
                  refine lv_aload_n hx hb dX8_copy_100 rfl (lv_at hl 2 rfl) ?_
                  refine lv_iconst (v := 3) hx hb dX8_copy_101 (by decide) ?_
                  obtain ⟨y27, h28, hM⟩ := o_bd hM
                  refine af_i (ws2 := (w_Tq_copy cI cJ cS q_t q_t_plan q_t_counter q_t_choices q_t_ringers q_t_readings q_t_sheets q_t_sh0 q_t_sh0_cells q_t_sh1 q_t_sh1_cells q_t_sh2 q_t_sh2_cells q_t_sh3 q_t_sh3_cells t_traced y27.2 t_sh_lane t_sh_size t_sh_cells)) (va_runV (As := [.int 3]) (rest := []) ⟨hx, hb, hml, hown, hts⟩ (c_Tq_faulted l D cI cJ cS q_t q_t_plan q_t_counter q_t_choices q_t_ringers q_t_readings q_t_sheets t_traced t_lastFault 3 y27 h28 _) (cwV 1 hts gX8_copy_X8_faulted rfl rfl rfl (by decide +kernel) ⟨(Nat.le_of_ble_eq_true rfl), (Nat.le_of_ble_eq_true rfl)⟩) (pre_V hK hP hD [0] rfl rfl rfl rfl) rfl rfl hl.1 rfl (lv_room (Nat.le_of_ble_eq_true rfl)) dX8_copy_102 ⟨Nat.zero_le _, Nat.zero_le _⟩) hP hD hS hA [0] [1, 2, 3, 4, 5, 6, 7, 8, 9] [9, 0, 1, 2, 3, 4, 5, 6, 7, 8] rfl rfl rfl (by decide) rfl rfl (fun H locs hP hD hS => ?_)
                  have hM := (Option.some.inj hM)
                  subst hM
                  exact rt_i hx hb hr hlocks hP hD hS dX8_copy_105
                · have hM := (o_if hM).2 c26
                  refine lv_aload hx hb dX8_copy_88 (lv_at hl 0 rfl) ?_
                  refine lv_iload hx hb dX8_copy_90 (lv_at hl 6 rfl) ?_
                  refine lv_iload hx hb dX8_copy_92 (lv_at hl 7 rfl) ?_
                  obtain ⟨y29, h30, hM⟩ := o_bd hM
                  refine af_i (ws2 := (w_Tq_copy cI cJ cS q_t q_t_plan q_t_counter q_t_choices q_t_ringers q_t_readings q_t_sheets q_t_sh0 q_t_sh0_cells q_t_sh1 q_t_sh1_cells q_t_sh2 q_t_sh2_cells q_t_sh3 q_t_sh3_cells t_traced t_lastFault t_sh_lane t_sh_size t_sh_cells)) (va_runV (As := [.int p_j, .int p_n]) (rest := []) ⟨hx, hb, hml, hown, hts⟩ (c_Sh_holds l D cI cJ cS q_t_sh1 q_t_sh1_cells (t_sh_lane 1) (t_sh_size 1) p_j p_n y29 h30 _) (cwV 2 hts gX8_copy_X6_holds rfl rfl rfl (by decide +kernel) ⟨(Nat.le_of_ble_eq_true rfl), (Nat.le_of_ble_eq_true rfl)⟩) (pre_V hK hP hD [4] rfl rfl rfl rfl) rfl rfl hl.1 rfl (lv_room (Nat.le_of_ble_eq_true rfl)) dX8_copy_94 ⟨Nat.zero_le _, Nat.zero_le _⟩) hP hD hS hA [4] [0, 1, 2, 3, 5, 6, 7, 8, 9] [0, 1, 2, 3, 9, 4, 5, 6, 7, 8] rfl rfl rfl (by decide) rfl rfl (fun H locs hP hD hS => ?_)
                  refine lv_if_ne (tgt := 106) hx hb dX8_copy_97 (by decide) (fun c31 => ?_) (fun c31 => ?_)
                  · have hM := (o_if hM).2 c31
                    refine lv_aload hx hb dX8_copy_106 (lv_at hl 1 rfl) ?_
                    refine va_getN (ci := 6) (v := .ref q_t_sh0_cells) (C := RX6) (T := TX6) (N := 3) (host := RX8) hx hb hts iX6 hown hK.1 hP 2 rfl rfl 0 (Nat.le_of_ble_eq_true rfl) (va_Nw.use rfl hK.2.2.2.2.2.2.2.2.2.2.2.2.2.2.2.2.2.2.1) (fun _ h9 => h9) rfl dX8_copy_108 ?_
                    refine lv_iload_n hx hb dX8_copy_111 rfl (lv_at hl 4 rfl) ?_
                    refine lv_aload hx hb dX8_copy_112 (lv_at hl 0 rfl) ?_
                    refine va_getN (ci := 6) (v := .ref q_t_sh1_cells) (C := RX6) (T := TX6) (N := 3) (host := RX8) hx hb hts iX6 hown hK.1 hP 4 rfl rfl 0 (Nat.le_of_ble_eq_true rfl) (va_Nw.use rfl hK.2.2.2.2.2.2.2.2.2.2.2.2.2.2.2.2.2.2.1) (fun _ h9 => h9) rfl dX8_copy_114 ?_
                    refine lv_iload hx hb dX8_copy_117 (lv_at hl 6 rfl) ?_
                    refine lv_iload hx hb dX8_copy_119 (lv_at hl 7 rfl) ?_
                    obtain ⟨h32, hM⟩ := o_gd hM
                    obtain ⟨h33, hM⟩ := o_gd hM
                    obtain ⟨h34, hM⟩ := o_gd hM
                    obtain ⟨h35, hM⟩ := o_gd hM
                    obtain ⟨h36, hM⟩ := o_gd hM
                    refine va_copyi hx hb (by rw [hml]; exact hl.1.symm) hown k1 k2 k3 k4 hK.1 hP hD hS 3 5 0 0 rfl rfl rfl rfl rfl h32 h33 h34 h35 h36 (fun _ _ => rfl) (Nat.le_of_ble_eq_true rfl) (Nat.le_of_ble_eq_true rfl) dX8_copy_121 (fun H locs hP hD hS => ?_)
                    have hP : va_P D vwCl (w_Tq_copy cI cJ cS q_t q_t_plan q_t_counter q_t_choices q_t_ringers q_t_readings q_t_sheets q_t_sh0 q_t_sh0_cells q_t_sh1 q_t_sh1_cells q_t_sh2 q_t_sh2_cells q_t_sh3 q_t_sh3_cells t_traced t_lastFault t_sh_lane t_sh_size (va_up t_sh_cells 1 (va_cpy (t_sh_cells 0) (t_sh_cells 1) p_i.toNatClampNeg p_j.toNatClampNeg p_n.toNatClampNeg))) H := hP
                    have hD : va_D A (w_Tq_copy cI cJ cS q_t q_t_plan q_t_counter q_t_choices q_t_ringers q_t_readings q_t_sheets q_t_sh0 q_t_sh0_cells q_t_sh1 q_t_sh1_cells q_t_sh2 q_t_sh2_cells q_t_sh3 q_t_sh3_cells t_traced t_lastFault t_sh_lane t_sh_size (va_up t_sh_cells 1 (va_cpy (t_sh_cells 0) (t_sh_cells 1) p_i.toNatClampNeg p_j.toNatClampNeg p_n.toNatClampNeg))) := hD
                    refine lv_aload_n hx hb dX8_copy_124 rfl (lv_at hl 2 rfl) ?_
                    refine lv_iload hx hb dX8_copy_125 (lv_at hl 7 rfl) ?_
                    obtain ⟨y37, h38, hM⟩ := o_bd hM
                    refine af_i (ws2 := (w_Tq_copy cI cJ cS q_t q_t_plan q_t_counter q_t_choices q_t_ringers q_t_readings q_t_sheets q_t_sh0 q_t_sh0_cells q_t_sh1 q_t_sh1_cells q_t_sh2 q_t_sh2_cells q_t_sh3 q_t_sh3_cells t_traced y37.2 t_sh_lane t_sh_size (va_up t_sh_cells 1 (va_cpy (t_sh_cells 0) (t_sh_cells 1) p_i.toNatClampNeg p_j.toNatClampNeg p_n.toNatClampNeg)))) (va_runV (As := [.int p_n]) (rest := []) ⟨hx, hb, hml, hown, hts⟩ (c_Tq_faultless l D cI cJ cS q_t q_t_plan q_t_counter q_t_choices q_t_ringers q_t_readings q_t_sheets t_traced t_lastFault p_n y37 h38 _) (cwV 1 hts gX8_copy_X8_faultless rfl rfl rfl (by decide +kernel) ⟨(Nat.le_of_ble_eq_true rfl), (Nat.le_of_ble_eq_true rfl)⟩) (pre_V hK hP hD [0] rfl rfl rfl rfl) rfl rfl hl.1 rfl (lv_room (Nat.le_of_ble_eq_true rfl)) dX8_copy_127 ⟨Nat.zero_le _, Nat.zero_le _⟩) hP hD hS hA [0] [1, 2, 3, 4, 5, 6, 7, 8, 9] [9, 0, 1, 2, 3, 4, 5, 6, 7, 8] rfl rfl rfl (by decide) rfl rfl (fun H locs hP hD hS => ?_)
                    have hM := (Option.some.inj hM)
                    subst hM
                    exact rt_i hx hb hr hlocks hP hD hS dX8_copy_130
                  · have hM := (o_if hM).1 c31
                    refine lv_aload_n hx hb dX8_copy_100 rfl (lv_at hl 2 rfl) ?_
                    refine lv_iconst (v := 3) hx hb dX8_copy_101 (by decide) ?_
                    obtain ⟨y39, h40, hM⟩ := o_bd hM
                    refine af_i (ws2 := (w_Tq_copy cI cJ cS q_t q_t_plan q_t_counter q_t_choices q_t_ringers q_t_readings q_t_sheets q_t_sh0 q_t_sh0_cells q_t_sh1 q_t_sh1_cells q_t_sh2 q_t_sh2_cells q_t_sh3 q_t_sh3_cells t_traced y39.2 t_sh_lane t_sh_size t_sh_cells)) (va_runV (As := [.int 3]) (rest := []) ⟨hx, hb, hml, hown, hts⟩ (c_Tq_faulted l D cI cJ cS q_t q_t_plan q_t_counter q_t_choices q_t_ringers q_t_readings q_t_sheets t_traced t_lastFault 3 y39 h40 _) (cwV 1 hts gX8_copy_X8_faulted rfl rfl rfl (by decide +kernel) ⟨(Nat.le_of_ble_eq_true rfl), (Nat.le_of_ble_eq_true rfl)⟩) (pre_V hK hP hD [0] rfl rfl rfl rfl) rfl rfl hl.1 rfl (lv_room (Nat.le_of_ble_eq_true rfl)) dX8_copy_102 ⟨Nat.zero_le _, Nat.zero_le _⟩) hP hD hS hA [0] [1, 2, 3, 4, 5, 6, 7, 8, 9] [9, 0, 1, 2, 3, 4, 5, 6, 7, 8] rfl rfl rfl (by decide) rfl rfl (fun H locs hP hD hS => ?_)
                    have hM := (Option.some.inj hM)
                    subst hM
                    exact rt_i hx hb hr hlocks hP hD hS dX8_copy_105
              · have hM := (o_if hM).2 c23
                refine lv_aload_n hx hb dX8_copy_71 rfl (lv_at hl 2 rfl) ?_
                refine lv_iconst (v := 2) hx hb dX8_copy_72 (by decide) ?_
                obtain ⟨y41, h42, hM⟩ := o_bd hM
                refine af_i (ws2 := (w_Tq_copy cI cJ cS q_t q_t_plan q_t_counter q_t_choices q_t_ringers q_t_readings q_t_sheets q_t_sh0 q_t_sh0_cells q_t_sh1 q_t_sh1_cells q_t_sh2 q_t_sh2_cells q_t_sh3 q_t_sh3_cells t_traced y41.2 t_sh_lane t_sh_size t_sh_cells)) (va_runV (As := [.int 2]) (rest := []) ⟨hx, hb, hml, hown, hts⟩ (c_Tq_faulted l D cI cJ cS q_t q_t_plan q_t_counter q_t_choices q_t_ringers q_t_readings q_t_sheets t_traced t_lastFault 2 y41 h42 _) (cwV 1 hts gX8_copy_X8_faulted rfl rfl rfl (by decide +kernel) ⟨(Nat.le_of_ble_eq_true rfl), (Nat.le_of_ble_eq_true rfl)⟩) (pre_V hK hP hD [0] rfl rfl rfl rfl) rfl rfl hl.1 rfl (lv_room (Nat.le_of_ble_eq_true rfl)) dX8_copy_73 ⟨Nat.zero_le _, Nat.zero_le _⟩) hP hD hS hA [0] [1, 2, 3, 4, 5, 6, 7, 8, 9] [9, 0, 1, 2, 3, 4, 5, 6, 7, 8] rfl rfl rfl (by decide) rfl rfl (fun H locs hP hD hS => ?_)
                have hM := (Option.some.inj hM)
                subst hM
                exact rt_i hx hb hr hlocks hP hD hS dX8_copy_76
            · have hM := (o_if hM).2 c20
              refine lv_aload_n hx hb dX8_copy_52 rfl (lv_at hl 2 rfl) ?_
              refine lv_iconst (v := 1) hx hb dX8_copy_53 (by decide) ?_
              obtain ⟨y43, h44, hM⟩ := o_bd hM
              refine af_i (ws2 := (w_Tq_copy cI cJ cS q_t q_t_plan q_t_counter q_t_choices q_t_ringers q_t_readings q_t_sheets q_t_sh0 q_t_sh0_cells q_t_sh1 q_t_sh1_cells q_t_sh2 q_t_sh2_cells q_t_sh3 q_t_sh3_cells t_traced y43.2 t_sh_lane t_sh_size t_sh_cells)) (va_runV (As := [.int 1]) (rest := []) ⟨hx, hb, hml, hown, hts⟩ (c_Tq_faulted l D cI cJ cS q_t q_t_plan q_t_counter q_t_choices q_t_ringers q_t_readings q_t_sheets t_traced t_lastFault 1 y43 h44 _) (cwV 1 hts gX8_copy_X8_faulted rfl rfl rfl (by decide +kernel) ⟨(Nat.le_of_ble_eq_true rfl), (Nat.le_of_ble_eq_true rfl)⟩) (pre_V hK hP hD [0] rfl rfl rfl rfl) rfl rfl hl.1 rfl (lv_room (Nat.le_of_ble_eq_true rfl)) dX8_copy_54 ⟨Nat.zero_le _, Nat.zero_le _⟩) hP hD hS hA [0] [1, 2, 3, 4, 5, 6, 7, 8, 9] [9, 0, 1, 2, 3, 4, 5, 6, 7, 8] rfl rfl rfl (by decide) rfl rfl (fun H locs hP hD hS => ?_)
              have hM := (Option.some.inj hM)
              subst hM
              exact rt_i hx hb hr hlocks hP hD hS dX8_copy_57
        · refine W.eq (g2 := F0 m 34 ls [.ref q_t_sh2]) rfl ?_
          refine lv_astore (lv' := [(7, .ref q_t_sh2), (6, .ref q_t_sh0), (0, .ref q_t), (1, .int p_k), (2, .int p_i), (3, .int p_other), (4, .int p_j), (5, .int p_n)]) hx hb dX8_copy_34 hl (Nat.le_of_ble_eq_true rfl) rfl (fun ls hl => ?_)
          refine lv_aload hx hb dX8_copy_36 (lv_at hl 1 rfl) ?_
          obtain ⟨y13, h14, hM⟩ := o_bd hM
          refine af_i (ws2 := (w_Tq_copy cI cJ cS q_t q_t_plan q_t_counter q_t_choices q_t_ringers q_t_readings q_t_sheets q_t_sh0 q_t_sh0_cells q_t_sh1 q_t_sh1_cells q_t_sh2 q_t_sh2_cells q_t_sh3 q_t_sh3_cells t_traced t_lastFault t_sh_lane t_sh_size t_sh_cells)) (va_runV (As := []) (rest := []) ⟨hx, hb, hml, hown, hts⟩ (c_Sh_hasNothing l D cI cJ cS q_t_sh0 q_t_sh0_cells (t_sh_lane 0) (t_sh_size 0) y13 h14 _) (cwV 0 hts gX8_copy_X6_hasNothing rfl rfl rfl (by decide +kernel) ⟨(Nat.le_of_ble_eq_true rfl), (Nat.le_of_ble_eq_true rfl)⟩) (pre_V hK hP hD [2] rfl rfl rfl rfl) rfl rfl hl.1 rfl (lv_room (Nat.le_of_ble_eq_true rfl)) dX8_copy_38 ⟨Nat.zero_le _, Nat.zero_le _⟩) hP hD hS hA [2] [0, 1, 3, 4, 5, 6, 7, 8, 9] [0, 1, 9, 2, 3, 4, 5, 6, 7, 8] rfl rfl rfl (by decide) rfl rfl (fun H locs hP hD hS => ?_)
          refine lv_if_ne (tgt := 52) hx hb dX8_copy_41 (by decide) (fun c15 => ?_) (fun c15 => ?_)
          · have hM := (o_if hM).2 c15
            refine lv_aload_n hx hb dX8_copy_52 rfl (lv_at hl 2 rfl) ?_
            refine lv_iconst (v := 1) hx hb dX8_copy_53 (by decide) ?_
            obtain ⟨y16, h17, hM⟩ := o_bd hM
            refine af_i (ws2 := (w_Tq_copy cI cJ cS q_t q_t_plan q_t_counter q_t_choices q_t_ringers q_t_readings q_t_sheets q_t_sh0 q_t_sh0_cells q_t_sh1 q_t_sh1_cells q_t_sh2 q_t_sh2_cells q_t_sh3 q_t_sh3_cells t_traced y16.2 t_sh_lane t_sh_size t_sh_cells)) (va_runV (As := [.int 1]) (rest := []) ⟨hx, hb, hml, hown, hts⟩ (c_Tq_faulted l D cI cJ cS q_t q_t_plan q_t_counter q_t_choices q_t_ringers q_t_readings q_t_sheets t_traced t_lastFault 1 y16 h17 _) (cwV 1 hts gX8_copy_X8_faulted rfl rfl rfl (by decide +kernel) ⟨(Nat.le_of_ble_eq_true rfl), (Nat.le_of_ble_eq_true rfl)⟩) (pre_V hK hP hD [0] rfl rfl rfl rfl) rfl rfl hl.1 rfl (lv_room (Nat.le_of_ble_eq_true rfl)) dX8_copy_54 ⟨Nat.zero_le _, Nat.zero_le _⟩) hP hD hS hA [0] [1, 2, 3, 4, 5, 6, 7, 8, 9] [9, 0, 1, 2, 3, 4, 5, 6, 7, 8] rfl rfl rfl (by decide) rfl rfl (fun H locs hP hD hS => ?_)
            have hM := (Option.some.inj hM)
            subst hM
            exact rt_i hx hb hr hlocks hP hD hS dX8_copy_57
          · have hM := (o_if hM).1 c15
            refine lv_aload hx hb dX8_copy_44 (lv_at hl 0 rfl) ?_
            obtain ⟨y18, h19, hM⟩ := o_bd hM
            refine af_i (ws2 := (w_Tq_copy cI cJ cS q_t q_t_plan q_t_counter q_t_choices q_t_ringers q_t_readings q_t_sheets q_t_sh0 q_t_sh0_cells q_t_sh1 q_t_sh1_cells q_t_sh2 q_t_sh2_cells q_t_sh3 q_t_sh3_cells t_traced t_lastFault t_sh_lane t_sh_size t_sh_cells)) (va_runV (As := []) (rest := []) ⟨hx, hb, hml, hown, hts⟩ (c_Sh_hasNothing l D cI cJ cS q_t_sh2 q_t_sh2_cells (t_sh_lane 2) (t_sh_size 2) y18 h19 _) (cwV 0 hts gX8_copy_X6_hasNothing rfl rfl rfl (by decide +kernel) ⟨(Nat.le_of_ble_eq_true rfl), (Nat.le_of_ble_eq_true rfl)⟩) (pre_V hK hP hD [6] rfl rfl rfl rfl) rfl rfl hl.1 rfl (lv_room (Nat.le_of_ble_eq_true rfl)) dX8_copy_46 ⟨Nat.zero_le _, Nat.zero_le _⟩) hP hD hS hA [6] [0, 1, 2, 3, 4, 5, 7, 8, 9] [0, 1, 2, 3, 4, 5, 9, 6, 7, 8] rfl rfl rfl (by decide) rfl rfl (fun H locs hP hD hS => ?_)
            refine lv_if_eq (tgt := 58) hx hb dX8_copy_49 (by decide) (fun c20 => ?_) (fun c20 => ?_)
            · have hM := (o_if hM).1 c20
              refine lv_aload hx hb dX8_copy_58 (lv_at hl 0 rfl) ?_
              refine lv_aload hx hb dX8_copy_60 (lv_at hl 1 rfl) ?_
              refine va_getN (ci := 6) (v := .int (t_sh_lane 0)) (C := RX6) (T := TX6) (N := 3) (host := RX8) hx hb hts iX6 hown hK.1 hP 2 rfl rfl 1 (Nat.le_of_ble_eq_true rfl) (va_Nw.use rfl hK.2.2.2.2.2.2.2.2.2.2.2.2.2.2.2.2.2.1) (fun _ h9 => h9) rfl dX8_copy_62 ?_
              obtain ⟨y21, h22, hM⟩ := o_bd hM
              refine af_i (ws2 := (w_Tq_copy cI cJ cS q_t q_t_plan q_t_counter q_t_choices q_t_ringers q_t_readings q_t_sheets q_t_sh0 q_t_sh0_cells q_t_sh1 q_t_sh1_cells q_t_sh2 q_t_sh2_cells q_t_sh3 q_t_sh3_cells t_traced t_lastFault t_sh_lane t_sh_size t_sh_cells)) (va_runV (As := [.int (t_sh_lane 0)]) (rest := []) ⟨hx, hb, hml, hown, hts⟩ (c_Sh_isOfAnother l D cI cJ cS q_t_sh2 q_t_sh2_cells (t_sh_lane 2) (t_sh_size 2) (t_sh_lane 0) y21 h22 _) (cwV 1 hts gX8_copy_X6_isOfAnother rfl rfl rfl (by decide +kernel) ⟨(Nat.le_of_ble_eq_true rfl), (Nat.le_of_ble_eq_true rfl)⟩) (pre_V hK hP hD [6] rfl rfl rfl rfl) rfl rfl hl.1 rfl (lv_room (Nat.le_of_ble_eq_true rfl)) dX8_copy_65 ⟨Nat.zero_le _, Nat.zero_le _⟩) hP hD hS hA [6] [0, 1, 2, 3, 4, 5, 7, 8, 9] [0, 1, 2, 3, 4, 5, 9, 6, 7, 8] rfl rfl rfl (by decide) rfl rfl (fun H locs hP hD hS => ?_)
              refine lv_if_eq (tgt := 77) hx hb dX8_copy_68 (by decide) (fun c23 => ?_) (fun c23 => ?_)
              · have hM := (o_if hM).1 c23
                refine lv_aload hx hb dX8_copy_77 (lv_at hl 1 rfl) ?_
                refine lv_iload_n hx hb dX8_copy_79 rfl (lv_at hl 4 rfl) ?_
                refine lv_iload hx hb dX8_copy_80 (lv_at hl 7 rfl) ?_
                obtain ⟨y24, h25, hM⟩ := o_bd hM
                refine af_i (ws2 := (w_Tq_copy cI cJ cS q_t q_t_plan q_t_counter q_t_choices q_t_ringers q_t_readings q_t_sheets q_t_sh0 q_t_sh0_cells q_t_sh1 q_t_sh1_cells q_t_sh2 q_t_sh2_cells q_t_sh3 q_t_sh3_cells t_traced t_lastFault t_sh_lane t_sh_size t_sh_cells)) (va_runV (As := [.int p_i, .int p_n]) (rest := []) ⟨hx, hb, hml, hown, hts⟩ (c_Sh_holds l D cI cJ cS q_t_sh0 q_t_sh0_cells (t_sh_lane 0) (t_sh_size 0) p_i p_n y24 h25 _) (cwV 2 hts gX8_copy_X6_holds rfl rfl rfl (by decide +kernel) ⟨(Nat.le_of_ble_eq_true rfl), (Nat.le_of_ble_eq_true rfl)⟩) (pre_V hK hP hD [2] rfl rfl rfl rfl) rfl rfl hl.1 rfl (lv_room (Nat.le_of_ble_eq_true rfl)) dX8_copy_82 ⟨Nat.zero_le _, Nat.zero_le _⟩) hP hD hS hA [2] [0, 1, 3, 4, 5, 6, 7, 8, 9] [0, 1, 9, 2, 3, 4, 5, 6, 7, 8] rfl rfl rfl (by decide) rfl rfl (fun H locs hP hD hS => ?_)
                refine lv_if_eq (tgt := 100) hx hb dX8_copy_85 (by decide) (fun c26 => ?_) (fun c26 => ?_)
                · have hM := (o_if hM).1 c26
                  refine lv_aload_n hx hb dX8_copy_100 rfl (lv_at hl 2 rfl) ?_
                  refine lv_iconst (v := 3) hx hb dX8_copy_101 (by decide) ?_
                  obtain ⟨y27, h28, hM⟩ := o_bd hM
                  refine af_i (ws2 := (w_Tq_copy cI cJ cS q_t q_t_plan q_t_counter q_t_choices q_t_ringers q_t_readings q_t_sheets q_t_sh0 q_t_sh0_cells q_t_sh1 q_t_sh1_cells q_t_sh2 q_t_sh2_cells q_t_sh3 q_t_sh3_cells t_traced y27.2 t_sh_lane t_sh_size t_sh_cells)) (va_runV (As := [.int 3]) (rest := []) ⟨hx, hb, hml, hown, hts⟩ (c_Tq_faulted l D cI cJ cS q_t q_t_plan q_t_counter q_t_choices q_t_ringers q_t_readings q_t_sheets t_traced t_lastFault 3 y27 h28 _) (cwV 1 hts gX8_copy_X8_faulted rfl rfl rfl (by decide +kernel) ⟨(Nat.le_of_ble_eq_true rfl), (Nat.le_of_ble_eq_true rfl)⟩) (pre_V hK hP hD [0] rfl rfl rfl rfl) rfl rfl hl.1 rfl (lv_room (Nat.le_of_ble_eq_true rfl)) dX8_copy_102 ⟨Nat.zero_le _, Nat.zero_le _⟩) hP hD hS hA [0] [1, 2, 3, 4, 5, 6, 7, 8, 9] [9, 0, 1, 2, 3, 4, 5, 6, 7, 8] rfl rfl rfl (by decide) rfl rfl (fun H locs hP hD hS => ?_)
                  have hM := (Option.some.inj hM)
                  subst hM
                  exact rt_i hx hb hr hlocks hP hD hS dX8_copy_105
                · have hM := (o_if hM).2 c26
                  refine lv_aload hx hb dX8_copy_88 (lv_at hl 0 rfl) ?_
                  refine lv_iload hx hb dX8_copy_90 (lv_at hl 6 rfl) ?_
                  refine lv_iload hx hb dX8_copy_92 (lv_at hl 7 rfl) ?_
                  obtain ⟨y29, h30, hM⟩ := o_bd hM
                  refine af_i (ws2 := (w_Tq_copy cI cJ cS q_t q_t_plan q_t_counter q_t_choices q_t_ringers q_t_readings q_t_sheets q_t_sh0 q_t_sh0_cells q_t_sh1 q_t_sh1_cells q_t_sh2 q_t_sh2_cells q_t_sh3 q_t_sh3_cells t_traced t_lastFault t_sh_lane t_sh_size t_sh_cells)) (va_runV (As := [.int p_j, .int p_n]) (rest := []) ⟨hx, hb, hml, hown, hts⟩ (c_Sh_holds l D cI cJ cS q_t_sh2 q_t_sh2_cells (t_sh_lane 2) (t_sh_size 2) p_j p_n y29 h30 _) (cwV 2 hts gX8_copy_X6_holds rfl rfl rfl (by decide +kernel) ⟨(Nat.le_of_ble_eq_true rfl), (Nat.le_of_ble_eq_true rfl)⟩) (pre_V hK hP hD [6] rfl rfl rfl rfl) rfl rfl hl.1 rfl (lv_room (Nat.le_of_ble_eq_true rfl)) dX8_copy_94 ⟨Nat.zero_le _, Nat.zero_le _⟩) hP hD hS hA [6] [0, 1, 2, 3, 4, 5, 7, 8, 9] [0, 1, 2, 3, 4, 5, 9, 6, 7, 8] rfl rfl rfl (by decide) rfl rfl (fun H locs hP hD hS => ?_)
                  refine lv_if_ne (tgt := 106) hx hb dX8_copy_97 (by decide) (fun c31 => ?_) (fun c31 => ?_)
                  · have hM := (o_if hM).2 c31
                    refine lv_aload hx hb dX8_copy_106 (lv_at hl 1 rfl) ?_
                    refine va_getN (ci := 6) (v := .ref q_t_sh0_cells) (C := RX6) (T := TX6) (N := 3) (host := RX8) hx hb hts iX6 hown hK.1 hP 2 rfl rfl 0 (Nat.le_of_ble_eq_true rfl) (va_Nw.use rfl hK.2.2.2.2.2.2.2.2.2.2.2.2.2.2.2.2.2.2.1) (fun _ h9 => h9) rfl dX8_copy_108 ?_
                    refine lv_iload_n hx hb dX8_copy_111 rfl (lv_at hl 4 rfl) ?_
                    refine lv_aload hx hb dX8_copy_112 (lv_at hl 0 rfl) ?_
                    refine va_getN (ci := 6) (v := .ref q_t_sh2_cells) (C := RX6) (T := TX6) (N := 3) (host := RX8) hx hb hts iX6 hown hK.1 hP 6 rfl rfl 0 (Nat.le_of_ble_eq_true rfl) (va_Nw.use rfl hK.2.2.2.2.2.2.2.2.2.2.2.2.2.2.2.2.2.2.1) (fun _ h9 => h9) rfl dX8_copy_114 ?_
                    refine lv_iload hx hb dX8_copy_117 (lv_at hl 6 rfl) ?_
                    refine lv_iload hx hb dX8_copy_119 (lv_at hl 7 rfl) ?_
                    obtain ⟨h32, hM⟩ := o_gd hM
                    obtain ⟨h33, hM⟩ := o_gd hM
                    obtain ⟨h34, hM⟩ := o_gd hM
                    obtain ⟨h35, hM⟩ := o_gd hM
                    obtain ⟨h36, hM⟩ := o_gd hM
                    refine va_copyi hx hb (by rw [hml]; exact hl.1.symm) hown k1 k2 k3 k4 hK.1 hP hD hS 3 7 0 0 rfl rfl rfl rfl rfl h32 h33 h34 h35 h36 (fun _ _ => rfl) (Nat.le_of_ble_eq_true rfl) (Nat.le_of_ble_eq_true rfl) dX8_copy_121 (fun H locs hP hD hS => ?_)
                    have hP : va_P D vwCl (w_Tq_copy cI cJ cS q_t q_t_plan q_t_counter q_t_choices q_t_ringers q_t_readings q_t_sheets q_t_sh0 q_t_sh0_cells q_t_sh1 q_t_sh1_cells q_t_sh2 q_t_sh2_cells q_t_sh3 q_t_sh3_cells t_traced t_lastFault t_sh_lane t_sh_size (va_up t_sh_cells 2 (va_cpy (t_sh_cells 0) (t_sh_cells 2) p_i.toNatClampNeg p_j.toNatClampNeg p_n.toNatClampNeg))) H := hP
                    have hD : va_D A (w_Tq_copy cI cJ cS q_t q_t_plan q_t_counter q_t_choices q_t_ringers q_t_readings q_t_sheets q_t_sh0 q_t_sh0_cells q_t_sh1 q_t_sh1_cells q_t_sh2 q_t_sh2_cells q_t_sh3 q_t_sh3_cells t_traced t_lastFault t_sh_lane t_sh_size (va_up t_sh_cells 2 (va_cpy (t_sh_cells 0) (t_sh_cells 2) p_i.toNatClampNeg p_j.toNatClampNeg p_n.toNatClampNeg))) := hD
                    refine lv_aload_n hx hb dX8_copy_124 rfl (lv_at hl 2 rfl) ?_
                    refine lv_iload hx hb dX8_copy_125 (lv_at hl 7 rfl) ?_
                    obtain ⟨y37, h38, hM⟩ := o_bd hM
                    refine af_i (ws2 := (w_Tq_copy cI cJ cS q_t q_t_plan q_t_counter q_t_choices q_t_ringers q_t_readings q_t_sheets q_t_sh0 q_t_sh0_cells q_t_sh1 q_t_sh1_cells q_t_sh2 q_t_sh2_cells q_t_sh3 q_t_sh3_cells t_traced y37.2 t_sh_lane t_sh_size (va_up t_sh_cells 2 (va_cpy (t_sh_cells 0) (t_sh_cells 2) p_i.toNatClampNeg p_j.toNatClampNeg p_n.toNatClampNeg)))) (va_runV (As := [.int p_n]) (rest := []) ⟨hx, hb, hml, hown, hts⟩ (c_Tq_faultless l D cI cJ cS q_t q_t_plan q_t_counter q_t_choices q_t_ringers q_t_readings q_t_sheets t_traced t_lastFault p_n y37 h38 _) (cwV 1 hts gX8_copy_X8_faultless rfl rfl rfl (by decide +kernel) ⟨(Nat.le_of_ble_eq_true rfl), (Nat.le_of_ble_eq_true rfl)⟩) (pre_V hK hP hD [0] rfl rfl rfl rfl) rfl rfl hl.1 rfl (lv_room (Nat.le_of_ble_eq_true rfl)) dX8_copy_127 ⟨Nat.zero_le _, Nat.zero_le _⟩) hP hD hS hA [0] [1, 2, 3, 4, 5, 6, 7, 8, 9] [9, 0, 1, 2, 3, 4, 5, 6, 7, 8] rfl rfl rfl (by decide) rfl rfl (fun H locs hP hD hS => ?_)
                    have hM := (Option.some.inj hM)
                    subst hM
                    exact rt_i hx hb hr hlocks hP hD hS dX8_copy_130
                  · have hM := (o_if hM).1 c31
                    refine lv_aload_n hx hb dX8_copy_100 rfl (lv_at hl 2 rfl) ?_
                    refine lv_iconst (v := 3) hx hb dX8_copy_101 (by decide) ?_
                    obtain ⟨y39, h40, hM⟩ := o_bd hM
                    refine af_i (ws2 := (w_Tq_copy cI cJ cS q_t q_t_plan q_t_counter q_t_choices q_t_ringers q_t_readings q_t_sheets q_t_sh0 q_t_sh0_cells q_t_sh1 q_t_sh1_cells q_t_sh2 q_t_sh2_cells q_t_sh3 q_t_sh3_cells t_traced y39.2 t_sh_lane t_sh_size t_sh_cells)) (va_runV (As := [.int 3]) (rest := []) ⟨hx, hb, hml, hown, hts⟩ (c_Tq_faulted l D cI cJ cS q_t q_t_plan q_t_counter q_t_choices q_t_ringers q_t_readings q_t_sheets t_traced t_lastFault 3 y39 h40 _) (cwV 1 hts gX8_copy_X8_faulted rfl rfl rfl (by decide +kernel) ⟨(Nat.le_of_ble_eq_true rfl), (Nat.le_of_ble_eq_true rfl)⟩) (pre_V hK hP hD [0] rfl rfl rfl rfl) rfl rfl hl.1 rfl (lv_room (Nat.le_of_ble_eq_true rfl)) dX8_copy_102 ⟨Nat.zero_le _, Nat.zero_le _⟩) hP hD hS hA [0] [1, 2, 3, 4, 5, 6, 7, 8, 9] [9, 0, 1, 2, 3, 4, 5, 6, 7, 8] rfl rfl rfl (by decide) rfl rfl (fun H locs hP hD hS => ?_)
                    have hM := (Option.some.inj hM)
                    subst hM
                    exact rt_i hx hb hr hlocks hP hD hS dX8_copy_105
              · have hM := (o_if hM).2 c23
                refine lv_aload_n hx hb dX8_copy_71 rfl (lv_at hl 2 rfl) ?_
                refine lv_iconst (v := 2) hx hb dX8_copy_72 (by decide) ?_
                obtain ⟨y41, h42, hM⟩ := o_bd hM
                refine af_i (ws2 := (w_Tq_copy cI cJ cS q_t q_t_plan q_t_counter q_t_choices q_t_ringers q_t_readings q_t_sheets q_t_sh0 q_t_sh0_cells q_t_sh1 q_t_sh1_cells q_t_sh2 q_t_sh2_cells q_t_sh3 q_t_sh3_cells t_traced y41.2 t_sh_lane t_sh_size t_sh_cells)) (va_runV (As := [.int 2]) (rest := []) ⟨hx, hb, hml, hown, hts⟩ (c_Tq_faulted l D cI cJ cS q_t q_t_plan q_t_counter q_t_choices q_t_ringers q_t_readings q_t_sheets t_traced t_lastFault 2 y41 h42 _) (cwV 1 hts gX8_copy_X8_faulted rfl rfl rfl (by decide +kernel) ⟨(Nat.le_of_ble_eq_true rfl), (Nat.le_of_ble_eq_true rfl)⟩) (pre_V hK hP hD [0] rfl rfl rfl rfl) rfl rfl hl.1 rfl (lv_room (Nat.le_of_ble_eq_true rfl)) dX8_copy_73 ⟨Nat.zero_le _, Nat.zero_le _⟩) hP hD hS hA [0] [1, 2, 3, 4, 5, 6, 7, 8, 9] [9, 0, 1, 2, 3, 4, 5, 6, 7, 8] rfl rfl rfl (by decide) rfl rfl (fun H locs hP hD hS => ?_)
                have hM := (Option.some.inj hM)
                subst hM
                exact rt_i hx hb hr hlocks hP hD hS dX8_copy_76
            · have hM := (o_if hM).2 c20
              refine lv_aload_n hx hb dX8_copy_52 rfl (lv_at hl 2 rfl) ?_
              refine lv_iconst (v := 1) hx hb dX8_copy_53 (by decide) ?_
              obtain ⟨y43, h44, hM⟩ := o_bd hM
              refine af_i (ws2 := (w_Tq_copy cI cJ cS q_t q_t_plan q_t_counter q_t_choices q_t_ringers q_t_readings q_t_sheets q_t_sh0 q_t_sh0_cells q_t_sh1 q_t_sh1_cells q_t_sh2 q_t_sh2_cells q_t_sh3 q_t_sh3_cells t_traced y43.2 t_sh_lane t_sh_size t_sh_cells)) (va_runV (As := [.int 1]) (rest := []) ⟨hx, hb, hml, hown, hts⟩ (c_Tq_faulted l D cI cJ cS q_t q_t_plan q_t_counter q_t_choices q_t_ringers q_t_readings q_t_sheets t_traced t_lastFault 1 y43 h44 _) (cwV 1 hts gX8_copy_X8_faulted rfl rfl rfl (by decide +kernel) ⟨(Nat.le_of_ble_eq_true rfl), (Nat.le_of_ble_eq_true rfl)⟩) (pre_V hK hP hD [0] rfl rfl rfl rfl) rfl rfl hl.1 rfl (lv_room (Nat.le_of_ble_eq_true rfl)) dX8_copy_54 ⟨Nat.zero_le _, Nat.zero_le _⟩) hP hD hS hA [0] [1, 2, 3, 4, 5, 6, 7, 8, 9] [9, 0, 1, 2, 3, 4, 5, 6, 7, 8] rfl rfl rfl (by decide) rfl rfl (fun H locs hP hD hS => ?_)
              have hM := (Option.some.inj hM)
              subst hM
              exact rt_i hx hb hr hlocks hP hD hS dX8_copy_57
        · refine W.eq (g2 := F0 m 34 ls [.ref q_t_sh3]) rfl ?_
          refine lv_astore (lv' := [(7, .ref q_t_sh3), (6, .ref q_t_sh0), (0, .ref q_t), (1, .int p_k), (2, .int p_i), (3, .int p_other), (4, .int p_j), (5, .int p_n)]) hx hb dX8_copy_34 hl (Nat.le_of_ble_eq_true rfl) rfl (fun ls hl => ?_)
          refine lv_aload hx hb dX8_copy_36 (lv_at hl 1 rfl) ?_
          obtain ⟨y13, h14, hM⟩ := o_bd hM
          refine af_i (ws2 := (w_Tq_copy cI cJ cS q_t q_t_plan q_t_counter q_t_choices q_t_ringers q_t_readings q_t_sheets q_t_sh0 q_t_sh0_cells q_t_sh1 q_t_sh1_cells q_t_sh2 q_t_sh2_cells q_t_sh3 q_t_sh3_cells t_traced t_lastFault t_sh_lane t_sh_size t_sh_cells)) (va_runV (As := []) (rest := []) ⟨hx, hb, hml, hown, hts⟩ (c_Sh_hasNothing l D cI cJ cS q_t_sh0 q_t_sh0_cells (t_sh_lane 0) (t_sh_size 0) y13 h14 _) (cwV 0 hts gX8_copy_X6_hasNothing rfl rfl rfl (by decide +kernel) ⟨(Nat.le_of_ble_eq_true rfl), (Nat.le_of_ble_eq_true rfl)⟩) (pre_V hK hP hD [2] rfl rfl rfl rfl) rfl rfl hl.1 rfl (lv_room (Nat.le_of_ble_eq_true rfl)) dX8_copy_38 ⟨Nat.zero_le _, Nat.zero_le _⟩) hP hD hS hA [2] [0, 1, 3, 4, 5, 6, 7, 8, 9] [0, 1, 9, 2, 3, 4, 5, 6, 7, 8] rfl rfl rfl (by decide) rfl rfl (fun H locs hP hD hS => ?_)
          refine lv_if_ne (tgt := 52) hx hb dX8_copy_41 (by decide) (fun c15 => ?_) (fun c15 => ?_)
          · have hM := (o_if hM).2 c15
            refine lv_aload_n hx hb dX8_copy_52 rfl (lv_at hl 2 rfl) ?_
            refine lv_iconst (v := 1) hx hb dX8_copy_53 (by decide) ?_
            obtain ⟨y16, h17, hM⟩ := o_bd hM
            refine af_i (ws2 := (w_Tq_copy cI cJ cS q_t q_t_plan q_t_counter q_t_choices q_t_ringers q_t_readings q_t_sheets q_t_sh0 q_t_sh0_cells q_t_sh1 q_t_sh1_cells q_t_sh2 q_t_sh2_cells q_t_sh3 q_t_sh3_cells t_traced y16.2 t_sh_lane t_sh_size t_sh_cells)) (va_runV (As := [.int 1]) (rest := []) ⟨hx, hb, hml, hown, hts⟩ (c_Tq_faulted l D cI cJ cS q_t q_t_plan q_t_counter q_t_choices q_t_ringers q_t_readings q_t_sheets t_traced t_lastFault 1 y16 h17 _) (cwV 1 hts gX8_copy_X8_faulted rfl rfl rfl (by decide +kernel) ⟨(Nat.le_of_ble_eq_true rfl), (Nat.le_of_ble_eq_true rfl)⟩) (pre_V hK hP hD [0] rfl rfl rfl rfl) rfl rfl hl.1 rfl (lv_room (Nat.le_of_ble_eq_true rfl)) dX8_copy_54 ⟨Nat.zero_le _, Nat.zero_le _⟩) hP hD hS hA [0] [1, 2, 3, 4, 5, 6, 7, 8, 9] [9, 0, 1, 2, 3, 4, 5, 6, 7, 8] rfl rfl rfl (by decide) rfl rfl (fun H locs hP hD hS => ?_)
            have hM := (Option.some.inj hM)
            subst hM
            exact rt_i hx hb hr hlocks hP hD hS dX8_copy_57
          · have hM := (o_if hM).1 c15
            refine lv_aload hx hb dX8_copy_44 (lv_at hl 0 rfl) ?_
            obtain ⟨y18, h19, hM⟩ := o_bd hM
            refine af_i (ws2 := (w_Tq_copy cI cJ cS q_t q_t_plan q_t_counter q_t_choices q_t_ringers q_t_readings q_t_sheets q_t_sh0 q_t_sh0_cells q_t_sh1 q_t_sh1_cells q_t_sh2 q_t_sh2_cells q_t_sh3 q_t_sh3_cells t_traced t_lastFault t_sh_lane t_sh_size t_sh_cells)) (va_runV (As := []) (rest := []) ⟨hx, hb, hml, hown, hts⟩ (c_Sh_hasNothing l D cI cJ cS q_t_sh3 q_t_sh3_cells (t_sh_lane 3) (t_sh_size 3) y18 h19 _) (cwV 0 hts gX8_copy_X6_hasNothing rfl rfl rfl (by decide +kernel) ⟨(Nat.le_of_ble_eq_true rfl), (Nat.le_of_ble_eq_true rfl)⟩) (pre_V hK hP hD [8] rfl rfl rfl rfl) rfl rfl hl.1 rfl (lv_room (Nat.le_of_ble_eq_true rfl)) dX8_copy_46 ⟨Nat.zero_le _, Nat.zero_le _⟩) hP hD hS hA [8] [0, 1, 2, 3, 4, 5, 6, 7, 9] [0, 1, 2, 3, 4, 5, 6, 7, 9, 8] rfl rfl rfl (by decide) rfl rfl (fun H locs hP hD hS => ?_)
            refine lv_if_eq (tgt := 58) hx hb dX8_copy_49 (by decide) (fun c20 => ?_) (fun c20 => ?_)
            · have hM := (o_if hM).1 c20
              refine lv_aload hx hb dX8_copy_58 (lv_at hl 0 rfl) ?_
              refine lv_aload hx hb dX8_copy_60 (lv_at hl 1 rfl) ?_
              refine va_getN (ci := 6) (v := .int (t_sh_lane 0)) (C := RX6) (T := TX6) (N := 3) (host := RX8) hx hb hts iX6 hown hK.1 hP 2 rfl rfl 1 (Nat.le_of_ble_eq_true rfl) (va_Nw.use rfl hK.2.2.2.2.2.2.2.2.2.2.2.2.2.2.2.2.2.1) (fun _ h9 => h9) rfl dX8_copy_62 ?_
              obtain ⟨y21, h22, hM⟩ := o_bd hM
              refine af_i (ws2 := (w_Tq_copy cI cJ cS q_t q_t_plan q_t_counter q_t_choices q_t_ringers q_t_readings q_t_sheets q_t_sh0 q_t_sh0_cells q_t_sh1 q_t_sh1_cells q_t_sh2 q_t_sh2_cells q_t_sh3 q_t_sh3_cells t_traced t_lastFault t_sh_lane t_sh_size t_sh_cells)) (va_runV (As := [.int (t_sh_lane 0)]) (rest := []) ⟨hx, hb, hml, hown, hts⟩ (c_Sh_isOfAnother l D cI cJ cS q_t_sh3 q_t_sh3_cells (t_sh_lane 3) (t_sh_size 3) (t_sh_lane 0) y21 h22 _) (cwV 1 hts gX8_copy_X6_isOfAnother rfl rfl rfl (by decide +kernel) ⟨(Nat.le_of_ble_eq_true rfl), (Nat.le_of_ble_eq_true rfl)⟩) (pre_V hK hP hD [8] rfl rfl rfl rfl) rfl rfl hl.1 rfl (lv_room (Nat.le_of_ble_eq_true rfl)) dX8_copy_65 ⟨Nat.zero_le _, Nat.zero_le _⟩) hP hD hS hA [8] [0, 1, 2, 3, 4, 5, 6, 7, 9] [0, 1, 2, 3, 4, 5, 6, 7, 9, 8] rfl rfl rfl (by decide) rfl rfl (fun H locs hP hD hS => ?_)
              refine lv_if_eq (tgt := 77) hx hb dX8_copy_68 (by decide) (fun c23 => ?_) (fun c23 => ?_)
              · have hM := (o_if hM).1 c23
                refine lv_aload hx hb dX8_copy_77 (lv_at hl 1 rfl) ?_
                refine lv_iload_n hx hb dX8_copy_79 rfl (lv_at hl 4 rfl) ?_
                refine lv_iload hx hb dX8_copy_80 (lv_at hl 7 rfl) ?_
                obtain ⟨y24, h25, hM⟩ := o_bd hM
                refine af_i (ws2 := (w_Tq_copy cI cJ cS q_t q_t_plan q_t_counter q_t_choices q_t_ringers q_t_readings q_t_sheets q_t_sh0 q_t_sh0_cells q_t_sh1 q_t_sh1_cells q_t_sh2 q_t_sh2_cells q_t_sh3 q_t_sh3_cells t_traced t_lastFault t_sh_lane t_sh_size t_sh_cells)) (va_runV (As := [.int p_i, .int p_n]) (rest := []) ⟨hx, hb, hml, hown, hts⟩ (c_Sh_holds l D cI cJ cS q_t_sh0 q_t_sh0_cells (t_sh_lane 0) (t_sh_size 0) p_i p_n y24 h25 _) (cwV 2 hts gX8_copy_X6_holds rfl rfl rfl (by decide +kernel) ⟨(Nat.le_of_ble_eq_true rfl), (Nat.le_of_ble_eq_true rfl)⟩) (pre_V hK hP hD [2] rfl rfl rfl rfl) rfl rfl hl.1 rfl (lv_room (Nat.le_of_ble_eq_true rfl)) dX8_copy_82 ⟨Nat.zero_le _, Nat.zero_le _⟩) hP hD hS hA [2] [0, 1, 3, 4, 5, 6, 7, 8, 9] [0, 1, 9, 2, 3, 4, 5, 6, 7, 8] rfl rfl rfl (by decide) rfl rfl (fun H locs hP hD hS => ?_)
                refine lv_if_eq (tgt := 100) hx hb dX8_copy_85 (by decide) (fun c26 => ?_) (fun c26 => ?_)
                · have hM := (o_if hM).1 c26
                  refine lv_aload_n hx hb dX8_copy_100 rfl (lv_at hl 2 rfl) ?_
                  refine lv_iconst (v := 3) hx hb dX8_copy_101 (by decide) ?_
                  obtain ⟨y27, h28, hM⟩ := o_bd hM
                  refine af_i (ws2 := (w_Tq_copy cI cJ cS q_t q_t_plan q_t_counter q_t_choices q_t_ringers q_t_readings q_t_sheets q_t_sh0 q_t_sh0_cells q_t_sh1 q_t_sh1_cells q_t_sh2 q_t_sh2_cells q_t_sh3 q_t_sh3_cells t_traced y27.2 t_sh_lane t_sh_size t_sh_cells)) (va_runV (As := [.int 3]) (rest := []) ⟨hx, hb, hml, hown, hts⟩ (c_Tq_faulted l D cI cJ cS q_t q_t_plan q_t_counter q_t_choices q_t_ringers q_t_readings q_t_sheets t_traced t_lastFault 3 y27 h28 _) (cwV 1 hts gX8_copy_X8_faulted rfl rfl rfl (by decide +kernel) ⟨(Nat.le_of_ble_eq_true rfl), (Nat.le_of_ble_eq_true rfl)⟩) (pre_V hK hP hD [0] rfl rfl rfl rfl) rfl rfl hl.1 rfl (lv_room (Nat.le_of_ble_eq_true rfl)) dX8_copy_102 ⟨Nat.zero_le _, Nat.zero_le _⟩) hP hD hS hA [0] [1, 2, 3, 4, 5, 6, 7, 8, 9] [9, 0, 1, 2, 3, 4, 5, 6, 7, 8] rfl rfl rfl (by decide) rfl rfl (fun H locs hP hD hS => ?_)
                  have hM := (Option.some.inj hM)
                  subst hM
                  exact rt_i hx hb hr hlocks hP hD hS dX8_copy_105
                · have hM := (o_if hM).2 c26
                  refine lv_aload hx hb dX8_copy_88 (lv_at hl 0 rfl) ?_
                  refine lv_iload hx hb dX8_copy_90 (lv_at hl 6 rfl) ?_
                  refine lv_iload hx hb dX8_copy_92 (lv_at hl 7 rfl) ?_
                  obtain ⟨y29, h30, hM⟩ := o_bd hM
                  refine af_i (ws2 := (w_Tq_copy cI cJ cS q_t q_t_plan q_t_counter q_t_choices q_t_ringers q_t_readings q_t_sheets q_t_sh0 q_t_sh0_cells q_t_sh1 q_t_sh1_cells q_t_sh2 q_t_sh2_cells q_t_sh3 q_t_sh3_cells t_traced t_lastFault t_sh_lane t_sh_size t_sh_cells)) (va_runV (As := [.int p_j, .int p_n]) (rest := []) ⟨hx, hb, hml, hown, hts⟩ (c_Sh_holds l D cI cJ cS q_t_sh3 q_t_sh3_cells (t_sh_lane 3) (t_sh_size 3) p_j p_n y29 h30 _) (cwV 2 hts gX8_copy_X6_holds rfl rfl rfl (by decide +kernel) ⟨(Nat.le_of_ble_eq_true rfl), (Nat.le_of_ble_eq_true rfl)⟩) (pre_V hK hP hD [8] rfl rfl rfl rfl) rfl rfl hl.1 rfl (lv_room (Nat.le_of_ble_eq_true rfl)) dX8_copy_94 ⟨Nat.zero_le _, Nat.zero_le _⟩) hP hD hS hA [8] [0, 1, 2, 3, 4, 5, 6, 7, 9] [0, 1, 2, 3, 4, 5, 6, 7, 9, 8] rfl rfl rfl (by decide) rfl rfl (fun H locs hP hD hS => ?_)
                  refine lv_if_ne (tgt := 106) hx hb dX8_copy_97 (by decide) (fun c31 => ?_) (fun c31 => ?_)
                  · have hM := (o_if hM).2 c31
                    refine lv_aload hx hb dX8_copy_106 (lv_at hl 1 rfl) ?_
                    refine va_getN (ci := 6) (v := .ref q_t_sh0_cells) (C := RX6) (T := TX6) (N := 3) (host := RX8) hx hb hts iX6 hown hK.1 hP 2 rfl rfl 0 (Nat.le_of_ble_eq_true rfl) (va_Nw.use rfl hK.2.2.2.2.2.2.2.2.2.2.2.2.2.2.2.2.2.2.1) (fun _ h9 => h9) rfl dX8_copy_108 ?_
                    refine lv_iload_n hx hb dX8_copy_111 rfl (lv_at hl 4 rfl) ?_
                    refine lv_aload hx hb dX8_copy_112 (lv_at hl 0 rfl) ?_
                    refine va_getN (ci := 6) (v := .ref q_t_sh3_cells) (C := RX6) (T := TX6) (N := 3) (host := RX8) hx hb hts iX6 hown hK.1 hP 8 rfl rfl 0 (Nat.le_of_ble_eq_true rfl) (va_Nw.use rfl hK.2.2.2.2.2.2.2.2.2.2.2.2.2.2.2.2.2.2.1) (fun _ h9 => h9) rfl dX8_copy_114 ?_
                    refine lv_iload hx hb dX8_copy_117 (lv_at hl 6 rfl) ?_
                    refine lv_iload hx hb dX8_copy_119 (lv_at hl 7 rfl) ?_
                    obtain ⟨h32, hM⟩ := o_gd hM
                    obtain ⟨h33, hM⟩ := o_gd hM
                    obtain ⟨h34, hM⟩ := o_gd hM
                    obtain ⟨h35, hM⟩ := o_gd hM
                    obtain ⟨h36, hM⟩ := o_gd hM
                    refine va_copyi hx hb (by rw [hml]; exact hl.1.symm) hown k1 k2 k3 k4 hK.1 hP hD hS 3 9 0 0 rfl rfl rfl rfl rfl h32 h33 h34 h35 h36 (fun _ _ => rfl) (Nat.le_of_ble_eq_true rfl) (Nat.le_of_ble_eq_true rfl) dX8_copy_121 (fun H locs hP hD hS => ?_)
                    have hP : va_P D vwCl (w_Tq_copy cI cJ cS q_t q_t_plan q_t_counter q_t_choices q_t_ringers q_t_readings q_t_sheets q_t_sh0 q_t_sh0_cells q_t_sh1 q_t_sh1_cells q_t_sh2 q_t_sh2_cells q_t_sh3 q_t_sh3_cells t_traced t_lastFault t_sh_lane t_sh_size (va_up t_sh_cells 3 (va_cpy (t_sh_cells 0) (t_sh_cells 3) p_i.toNatClampNeg p_j.toNatClampNeg p_n.toNatClampNeg))) H := hP
                    have hD : va_D A (w_Tq_copy cI cJ cS q_t q_t_plan q_t_counter q_t_choices q_t_ringers q_t_readings q_t_sheets q_t_sh0 q_t_sh0_cells q_t_sh1 q_t_sh1_cells q_t_sh2 q_t_sh2_cells q_t_sh3 q_t_sh3_cells t_traced t_lastFault t_sh_lane t_sh_size (va_up t_sh_cells 3 (va_cpy (t_sh_cells 0) (t_sh_cells 3) p_i.toNatClampNeg p_j.toNatClampNeg p_n.toNatClampNeg))) := hD
                    refine lv_aload_n hx hb dX8_copy_124 rfl (lv_at hl 2 rfl) ?_
                    refine lv_iload hx hb dX8_copy_125 (lv_at hl 7 rfl) ?_
                    obtain ⟨y37, h38, hM⟩ := o_bd hM
                    refine af_i (ws2 := (w_Tq_copy cI cJ cS q_t q_t_plan q_t_counter q_t_choices q_t_ringers q_t_readings q_t_sheets q_t_sh0 q_t_sh0_cells q_t_sh1 q_t_sh1_cells q_t_sh2 q_t_sh2_cells q_t_sh3 q_t_sh3_cells t_traced y37.2 t_sh_lane t_sh_size (va_up t_sh_cells 3 (va_cpy (t_sh_cells 0) (t_sh_cells 3) p_i.toNatClampNeg p_j.toNatClampNeg p_n.toNatClampNeg)))) (va_runV (As := [.int p_n]) (rest := []) ⟨hx, hb, hml, hown, hts⟩ (c_Tq_faultless l D cI cJ cS q_t q_t_plan q_t_counter q_t_choices q_t_ringers q_t_readings q_t_sheets t_traced t_lastFault p_n y37 h38 _) (cwV 1 hts gX8_copy_X8_faultless rfl rfl rfl (by decide +kernel) ⟨(Nat.le_of_ble_eq_true rfl), (Nat.le_of_ble_eq_true rfl)⟩) (pre_V hK hP hD [0] rfl rfl rfl rfl) rfl rfl hl.1 rfl (lv_room (Nat.le_of_ble_eq_true rfl)) dX8_copy_127 ⟨Nat.zero_le _, Nat.zero_le _⟩) hP hD hS hA [0] [1, 2, 3, 4, 5, 6, 7, 8, 9] [9, 0, 1, 2, 3, 4, 5, 6, 7, 8] rfl rfl rfl (by decide) rfl rfl (fun H locs hP hD hS => ?_)
                    have hM := (Option.some.inj hM)
                    subst hM
                    exact rt_i hx hb hr hlocks hP hD hS dX8_copy_130
                  · have hM := (o_if hM).1 c31
                    refine lv_aload_n hx hb dX8_copy_100 rfl (lv_at hl 2 rfl) ?_
                    refine lv_iconst (v := 3) hx hb dX8_copy_101 (by decide) ?_
                    obtain ⟨y39, h40, hM⟩ := o_bd hM
                    refine af_i (ws2 := (w_Tq_copy cI cJ cS q_t q_t_plan q_t_counter q_t_choices q_t_ringers q_t_readings q_t_sheets q_t_sh0 q_t_sh0_cells q_t_sh1 q_t_sh1_cells q_t_sh2 q_t_sh2_cells q_t_sh3 q_t_sh3_cells t_traced y39.2 t_sh_lane t_sh_size t_sh_cells)) (va_runV (As := [.int 3]) (rest := []) ⟨hx, hb, hml, hown, hts⟩ (c_Tq_faulted l D cI cJ cS q_t q_t_plan q_t_counter q_t_choices q_t_ringers q_t_readings q_t_sheets t_traced t_lastFault 3 y39 h40 _) (cwV 1 hts gX8_copy_X8_faulted rfl rfl rfl (by decide +kernel) ⟨(Nat.le_of_ble_eq_true rfl), (Nat.le_of_ble_eq_true rfl)⟩) (pre_V hK hP hD [0] rfl rfl rfl rfl) rfl rfl hl.1 rfl (lv_room (Nat.le_of_ble_eq_true rfl)) dX8_copy_102 ⟨Nat.zero_le _, Nat.zero_le _⟩) hP hD hS hA [0] [1, 2, 3, 4, 5, 6, 7, 8, 9] [9, 0, 1, 2, 3, 4, 5, 6, 7, 8] rfl rfl rfl (by decide) rfl rfl (fun H locs hP hD hS => ?_)
                    have hM := (Option.some.inj hM)
                    subst hM
                    exact rt_i hx hb hr hlocks hP hD hS dX8_copy_105
              · have hM := (o_if hM).2 c23
                refine lv_aload_n hx hb dX8_copy_71 rfl (lv_at hl 2 rfl) ?_
                refine lv_iconst (v := 2) hx hb dX8_copy_72 (by decide) ?_
                obtain ⟨y41, h42, hM⟩ := o_bd hM
                refine af_i (ws2 := (w_Tq_copy cI cJ cS q_t q_t_plan q_t_counter q_t_choices q_t_ringers q_t_readings q_t_sheets q_t_sh0 q_t_sh0_cells q_t_sh1 q_t_sh1_cells q_t_sh2 q_t_sh2_cells q_t_sh3 q_t_sh3_cells t_traced y41.2 t_sh_lane t_sh_size t_sh_cells)) (va_runV (As := [.int 2]) (rest := []) ⟨hx, hb, hml, hown, hts⟩ (c_Tq_faulted l D cI cJ cS q_t q_t_plan q_t_counter q_t_choices q_t_ringers q_t_readings q_t_sheets t_traced t_lastFault 2 y41 h42 _) (cwV 1 hts gX8_copy_X8_faulted rfl rfl rfl (by decide +kernel) ⟨(Nat.le_of_ble_eq_true rfl), (Nat.le_of_ble_eq_true rfl)⟩) (pre_V hK hP hD [0] rfl rfl rfl rfl) rfl rfl hl.1 rfl (lv_room (Nat.le_of_ble_eq_true rfl)) dX8_copy_73 ⟨Nat.zero_le _, Nat.zero_le _⟩) hP hD hS hA [0] [1, 2, 3, 4, 5, 6, 7, 8, 9] [9, 0, 1, 2, 3, 4, 5, 6, 7, 8] rfl rfl rfl (by decide) rfl rfl (fun H locs hP hD hS => ?_)
                have hM := (Option.some.inj hM)
                subst hM
                exact rt_i hx hb hr hlocks hP hD hS dX8_copy_76
            · have hM := (o_if hM).2 c20
              refine lv_aload_n hx hb dX8_copy_52 rfl (lv_at hl 2 rfl) ?_
              refine lv_iconst (v := 1) hx hb dX8_copy_53 (by decide) ?_
              obtain ⟨y43, h44, hM⟩ := o_bd hM
              refine af_i (ws2 := (w_Tq_copy cI cJ cS q_t q_t_plan q_t_counter q_t_choices q_t_ringers q_t_readings q_t_sheets q_t_sh0 q_t_sh0_cells q_t_sh1 q_t_sh1_cells q_t_sh2 q_t_sh2_cells q_t_sh3 q_t_sh3_cells t_traced y43.2 t_sh_lane t_sh_size t_sh_cells)) (va_runV (As := [.int 1]) (rest := []) ⟨hx, hb, hml, hown, hts⟩ (c_Tq_faulted l D cI cJ cS q_t q_t_plan q_t_counter q_t_choices q_t_ringers q_t_readings q_t_sheets t_traced t_lastFault 1 y43 h44 _) (cwV 1 hts gX8_copy_X8_faulted rfl rfl rfl (by decide +kernel) ⟨(Nat.le_of_ble_eq_true rfl), (Nat.le_of_ble_eq_true rfl)⟩) (pre_V hK hP hD [0] rfl rfl rfl rfl) rfl rfl hl.1 rfl (lv_room (Nat.le_of_ble_eq_true rfl)) dX8_copy_54 ⟨Nat.zero_le _, Nat.zero_le _⟩) hP hD hS hA [0] [1, 2, 3, 4, 5, 6, 7, 8, 9] [9, 0, 1, 2, 3, 4, 5, 6, 7, 8] rfl rfl rfl (by decide) rfl rfl (fun H locs hP hD hS => ?_)
              have hM := (Option.some.inj hM)
              subst hM
              exact rt_i hx hb hr hlocks hP hD hS dX8_copy_57
      · refine W.eq (g2 := F0 m 26 ls [.ref q_t_sh1]) rfl ?_
        refine lv_astore (lv' := [(6, .ref q_t_sh1), (0, .ref q_t), (1, .int p_k), (2, .int p_i), (3, .int p_other), (4, .int p_j), (5, .int p_n)]) hx hb dX8_copy_26 hl (Nat.le_of_ble_eq_true rfl) rfl (fun ls hl => ?_)
        refine lv_aload_n hx hb dX8_copy_28 rfl (lv_at hl 1 rfl) ?_
        refine va_get (ci := 7) (v := .ref q_t_sheets) (C := RX8) (T := TX8) (N := 8) hx hb hts iX8 hown hK.1 hP 0 rfl rfl 5 (Nat.le_of_ble_eq_true rfl) k0 (fun _ h9 => h9) rfl dX8_copy_29 ?_
        refine lv_iload_n hx hb dX8_copy_32 rfl (lv_at hl 4 rfl) ?_
        obtain ⟨h11, hM⟩ := o_ck hM
        refine va_aldq hx hb hK.1 hP 1 2 rfl rfl h11 dX8_copy_33 ?_
        obtain ⟨j12, ej12⟩ : ∃ y : Nat, y = p_other.toNatClampNeg := ⟨_, rfl⟩
        have hM := o_lt hM j12 ej12
        have hj12 : j12 < 4 := by rw [ej12]; exact ck_lt h11
        rw [← ej12]
        rcases (show j12 = 0 ∨ j12 = 1 ∨ j12 = 2 ∨ j12 = 3 by omega) with rfl | rfl | rfl | rfl
        · refine W.eq (g2 := F0 m 34 ls [.ref q_t_sh0]) rfl ?_
          refine lv_astore (lv' := [(7, .ref q_t_sh0), (6, .ref q_t_sh1), (0, .ref q_t), (1, .int p_k), (2, .int p_i), (3, .int p_other), (4, .int p_j), (5, .int p_n)]) hx hb dX8_copy_34 hl (Nat.le_of_ble_eq_true rfl) rfl (fun ls hl => ?_)
          refine lv_aload hx hb dX8_copy_36 (lv_at hl 1 rfl) ?_
          obtain ⟨y13, h14, hM⟩ := o_bd hM
          refine af_i (ws2 := (w_Tq_copy cI cJ cS q_t q_t_plan q_t_counter q_t_choices q_t_ringers q_t_readings q_t_sheets q_t_sh0 q_t_sh0_cells q_t_sh1 q_t_sh1_cells q_t_sh2 q_t_sh2_cells q_t_sh3 q_t_sh3_cells t_traced t_lastFault t_sh_lane t_sh_size t_sh_cells)) (va_runV (As := []) (rest := []) ⟨hx, hb, hml, hown, hts⟩ (c_Sh_hasNothing l D cI cJ cS q_t_sh1 q_t_sh1_cells (t_sh_lane 1) (t_sh_size 1) y13 h14 _) (cwV 0 hts gX8_copy_X6_hasNothing rfl rfl rfl (by decide +kernel) ⟨(Nat.le_of_ble_eq_true rfl), (Nat.le_of_ble_eq_true rfl)⟩) (pre_V hK hP hD [4] rfl rfl rfl rfl) rfl rfl hl.1 rfl (lv_room (Nat.le_of_ble_eq_true rfl)) dX8_copy_38 ⟨Nat.zero_le _, Nat.zero_le _⟩) hP hD hS hA [4] [0, 1, 2, 3, 5, 6, 7, 8, 9] [0, 1, 2, 3, 9, 4, 5, 6, 7, 8] rfl rfl rfl (by decide) rfl rfl (fun H locs hP hD hS => ?_)
          refine lv_if_ne (tgt := 52) hx hb dX8_copy_41 (by decide) (fun c15 => ?_) (fun c15 => ?_)
          · have hM := (o_if hM).2 c15
            refine lv_aload_n hx hb dX8_copy_52 rfl (lv_at hl 2 rfl) ?_
            refine lv_iconst (v := 1) hx hb dX8_copy_53 (by decide) ?_
            obtain ⟨y16, h17, hM⟩ := o_bd hM
            refine af_i (ws2 := (w_Tq_copy cI cJ cS q_t q_t_plan q_t_counter q_t_choices q_t_ringers q_t_readings q_t_sheets q_t_sh0 q_t_sh0_cells q_t_sh1 q_t_sh1_cells q_t_sh2 q_t_sh2_cells q_t_sh3 q_t_sh3_cells t_traced y16.2 t_sh_lane t_sh_size t_sh_cells)) (va_runV (As := [.int 1]) (rest := []) ⟨hx, hb, hml, hown, hts⟩ (c_Tq_faulted l D cI cJ cS q_t q_t_plan q_t_counter q_t_choices q_t_ringers q_t_readings q_t_sheets t_traced t_lastFault 1 y16 h17 _) (cwV 1 hts gX8_copy_X8_faulted rfl rfl rfl (by decide +kernel) ⟨(Nat.le_of_ble_eq_true rfl), (Nat.le_of_ble_eq_true rfl)⟩) (pre_V hK hP hD [0] rfl rfl rfl rfl) rfl rfl hl.1 rfl (lv_room (Nat.le_of_ble_eq_true rfl)) dX8_copy_54 ⟨Nat.zero_le _, Nat.zero_le _⟩) hP hD hS hA [0] [1, 2, 3, 4, 5, 6, 7, 8, 9] [9, 0, 1, 2, 3, 4, 5, 6, 7, 8] rfl rfl rfl (by decide) rfl rfl (fun H locs hP hD hS => ?_)
            have hM := (Option.some.inj hM)
            subst hM
            exact rt_i hx hb hr hlocks hP hD hS dX8_copy_57
          · have hM := (o_if hM).1 c15
            refine lv_aload hx hb dX8_copy_44 (lv_at hl 0 rfl) ?_
            obtain ⟨y18, h19, hM⟩ := o_bd hM
            refine af_i (ws2 := (w_Tq_copy cI cJ cS q_t q_t_plan q_t_counter q_t_choices q_t_ringers q_t_readings q_t_sheets q_t_sh0 q_t_sh0_cells q_t_sh1 q_t_sh1_cells q_t_sh2 q_t_sh2_cells q_t_sh3 q_t_sh3_cells t_traced t_lastFault t_sh_lane t_sh_size t_sh_cells)) (va_runV (As := []) (rest := []) ⟨hx, hb, hml, hown, hts⟩ (c_Sh_hasNothing l D cI cJ cS q_t_sh0 q_t_sh0_cells (t_sh_lane 0) (t_sh_size 0) y18 h19 _) (cwV 0 hts gX8_copy_X6_hasNothing rfl rfl rfl (by decide +kernel) ⟨(Nat.le_of_ble_eq_true rfl), (Nat.le_of_ble_eq_true rfl)⟩) (pre_V hK hP hD [2] rfl rfl rfl rfl) rfl rfl hl.1 rfl (lv_room (Nat.le_of_ble_eq_true rfl)) dX8_copy_46 ⟨Nat.zero_le _, Nat.zero_le _⟩) hP hD hS hA [2] [0, 1, 3, 4, 5, 6, 7, 8, 9] [0, 1, 9, 2, 3, 4, 5, 6, 7, 8] rfl rfl rfl (by decide) rfl rfl (fun H locs hP hD hS => ?_)
            refine lv_if_eq (tgt := 58) hx hb dX8_copy_49 (by decide) (fun c20 => ?_) (fun c20 => ?_)
            · have hM := (o_if hM).1 c20
              refine lv_aload hx hb dX8_copy_58 (lv_at hl 0 rfl) ?_
              refine lv_aload hx hb dX8_copy_60 (lv_at hl 1 rfl) ?_
              refine va_getN (ci := 6) (v := .int (t_sh_lane 1)) (C := RX6) (T := TX6) (N := 3) (host := RX8) hx hb hts iX6 hown hK.1 hP 4 rfl rfl 1 (Nat.le_of_ble_eq_true rfl) (va_Nw.use rfl hK.2.2.2.2.2.2.2.2.2.2.2.2.2.2.2.2.2.1) (fun _ h9 => h9) rfl dX8_copy_62 ?_
              obtain ⟨y21, h22, hM⟩ := o_bd hM
              refine af_i (ws2 := (w_Tq_copy cI cJ cS q_t q_t_plan q_t_counter q_t_choices q_t_ringers q_t_readings q_t_sheets q_t_sh0 q_t_sh0_cells q_t_sh1 q_t_sh1_cells q_t_sh2 q_t_sh2_cells q_t_sh3 q_t_sh3_cells t_traced t_lastFault t_sh_lane t_sh_size t_sh_cells)) (va_runV (As := [.int (t_sh_lane 1)]) (rest := []) ⟨hx, hb, hml, hown, hts⟩ (c_Sh_isOfAnother l D cI cJ cS q_t_sh0 q_t_sh0_cells (t_sh_lane 0) (t_sh_size 0) (t_sh_lane 1) y21 h22 _) (cwV 1 hts gX8_copy_X6_isOfAnother rfl rfl rfl (by decide +kernel) ⟨(Nat.le_of_ble_eq_true rfl), (Nat.le_of_ble_eq_true rfl)⟩) (pre_V hK hP hD [2] rfl rfl rfl rfl) rfl rfl hl.1 rfl (lv_room (Nat.le_of_ble_eq_true rfl)) dX8_copy_65 ⟨Nat.zero_le _, Nat.zero_le _⟩) hP hD hS hA [2] [0, 1, 3, 4, 5, 6, 7, 8, 9] [0, 1, 9, 2, 3, 4, 5, 6, 7, 8] rfl rfl rfl (by decide) rfl rfl (fun H locs hP hD hS => ?_)
              refine lv_if_eq (tgt := 77) hx hb dX8_copy_68 (by decide) (fun c23 => ?_) (fun c23 => ?_)
              · have hM := (o_if hM).1 c23
                refine lv_aload hx hb dX8_copy_77 (lv_at hl 1 rfl) ?_
                refine lv_iload_n hx hb dX8_copy_79 rfl (lv_at hl 4 rfl) ?_
                refine lv_iload hx hb dX8_copy_80 (lv_at hl 7 rfl) ?_
                obtain ⟨y24, h25, hM⟩ := o_bd hM
                refine af_i (ws2 := (w_Tq_copy cI cJ cS q_t q_t_plan q_t_counter q_t_choices q_t_ringers q_t_readings q_t_sheets q_t_sh0 q_t_sh0_cells q_t_sh1 q_t_sh1_cells q_t_sh2 q_t_sh2_cells q_t_sh3 q_t_sh3_cells t_traced t_lastFault t_sh_lane t_sh_size t_sh_cells)) (va_runV (As := [.int p_i, .int p_n]) (rest := []) ⟨hx, hb, hml, hown, hts⟩ (c_Sh_holds l D cI cJ cS q_t_sh1 q_t_sh1_cells (t_sh_lane 1) (t_sh_size 1) p_i p_n y24 h25 _) (cwV 2 hts gX8_copy_X6_holds rfl rfl rfl (by decide +kernel) ⟨(Nat.le_of_ble_eq_true rfl), (Nat.le_of_ble_eq_true rfl)⟩) (pre_V hK hP hD [4] rfl rfl rfl rfl) rfl rfl hl.1 rfl (lv_room (Nat.le_of_ble_eq_true rfl)) dX8_copy_82 ⟨Nat.zero_le _, Nat.zero_le _⟩) hP hD hS hA [4] [0, 1, 2, 3, 5, 6, 7, 8, 9] [0, 1, 2, 3, 9, 4, 5, 6, 7, 8] rfl rfl rfl (by decide) rfl rfl (fun H locs hP hD hS => ?_)
                refine lv_if_eq (tgt := 100) hx hb dX8_copy_85 (by decide) (fun c26 => ?_) (fun c26 => ?_)
                · have hM := (o_if hM).1 c26
                  refine lv_aload_n hx hb dX8_copy_100 rfl (lv_at hl 2 rfl) ?_
                  refine lv_iconst (v := 3) hx hb dX8_copy_101 (by decide) ?_
                  obtain ⟨y27, h28, hM⟩ := o_bd hM
                  refine af_i (ws2 := (w_Tq_copy cI cJ cS q_t q_t_plan q_t_counter q_t_choices q_t_ringers q_t_readings q_t_sheets q_t_sh0 q_t_sh0_cells q_t_sh1 q_t_sh1_cells q_t_sh2 q_t_sh2_cells q_t_sh3 q_t_sh3_cells t_traced y27.2 t_sh_lane t_sh_size t_sh_cells)) (va_runV (As := [.int 3]) (rest := []) ⟨hx, hb, hml, hown, hts⟩ (c_Tq_faulted l D cI cJ cS q_t q_t_plan q_t_counter q_t_choices q_t_ringers q_t_readings q_t_sheets t_traced t_lastFault 3 y27 h28 _) (cwV 1 hts gX8_copy_X8_faulted rfl rfl rfl (by decide +kernel) ⟨(Nat.le_of_ble_eq_true rfl), (Nat.le_of_ble_eq_true rfl)⟩) (pre_V hK hP hD [0] rfl rfl rfl rfl) rfl rfl hl.1 rfl (lv_room (Nat.le_of_ble_eq_true rfl)) dX8_copy_102 ⟨Nat.zero_le _, Nat.zero_le _⟩) hP hD hS hA [0] [1, 2, 3, 4, 5, 6, 7, 8, 9] [9, 0, 1, 2, 3, 4, 5, 6, 7, 8] rfl rfl rfl (by decide) rfl rfl (fun H locs hP hD hS => ?_)
                  have hM := (Option.some.inj hM)
                  subst hM
                  exact rt_i hx hb hr hlocks hP hD hS dX8_copy_105
                · have hM := (o_if hM).2 c26
                  refine lv_aload hx hb dX8_copy_88 (lv_at hl 0 rfl) ?_
                  refine lv_iload hx hb dX8_copy_90 (lv_at hl 6 rfl) ?_
                  refine lv_iload hx hb dX8_copy_92 (lv_at hl 7 rfl) ?_
                  obtain ⟨y29, h30, hM⟩ := o_bd hM
                  refine af_i (ws2 := (w_Tq_copy cI cJ cS q_t q_t_plan q_t_counter q_t_choices q_t_ringers q_t_readings q_t_sheets q_t_sh0 q_t_sh0_cells q_t_sh1 q_t_sh1_cells q_t_sh2 q_t_sh2_cells q_t_sh3 q_t_sh3_cells t_traced t_lastFault t_sh_lane t_sh_size t_sh_cells)) (va_runV (As := [.int p_j, .int p_n]) (rest := []) ⟨hx, hb, hml, hown, hts⟩ (c_Sh_holds l D cI cJ cS q_t_sh0 q_t_sh0_cells (t_sh_lane 0) (t_sh_size 0) p_j p_n y29 h30 _) (cwV 2 hts gX8_copy_X6_holds rfl rfl rfl (by decide +kernel) ⟨(Nat.le_of_ble_eq_true rfl), (Nat.le_of_ble_eq_true rfl)⟩) (pre_V hK hP hD [2] rfl rfl rfl rfl) rfl rfl hl.1 rfl (lv_room (Nat.le_of_ble_eq_true rfl)) dX8_copy_94 ⟨Nat.zero_le _, Nat.zero_le _⟩) hP hD hS hA [2] [0, 1, 3, 4, 5, 6, 7, 8, 9] [0, 1, 9, 2, 3, 4, 5, 6, 7, 8] rfl rfl rfl (by decide) rfl rfl (fun H locs hP hD hS => ?_)
                  refine lv_if_ne (tgt := 106) hx hb dX8_copy_97 (by decide) (fun c31 => ?_) (fun c31 => ?_)
                  · have hM := (o_if hM).2 c31
                    refine lv_aload hx hb dX8_copy_106 (lv_at hl 1 rfl) ?_
                    refine va_getN (ci := 6) (v := .ref q_t_sh1_cells) (C := RX6) (T := TX6) (N := 3) (host := RX8) hx hb hts iX6 hown hK.1 hP 4 rfl rfl 0 (Nat.le_of_ble_eq_true rfl) (va_Nw.use rfl hK.2.2.2.2.2.2.2.2.2.2.2.2.2.2.2.2.2.2.1) (fun _ h9 => h9) rfl dX8_copy_108 ?_
                    refine lv_iload_n hx hb dX8_copy_111 rfl (lv_at hl 4 rfl) ?_
                    refine lv_aload hx hb dX8_copy_112 (lv_at hl 0 rfl) ?_
                    refine va_getN (ci := 6) (v := .ref q_t_sh0_cells) (C := RX6) (T := TX6) (N := 3) (host := RX8) hx hb hts iX6 hown hK.1 hP 2 rfl rfl 0 (Nat.le_of_ble_eq_true rfl) (va_Nw.use rfl hK.2.2.2.2.2.2.2.2.2.2.2.2.2.2.2.2.2.2.1) (fun _ h9 => h9) rfl dX8_copy_114 ?_
                    refine lv_iload hx hb dX8_copy_117 (lv_at hl 6 rfl) ?_
                    refine lv_iload hx hb dX8_copy_119 (lv_at hl 7 rfl) ?_
                    obtain ⟨h32, hM⟩ := o_gd hM
                    obtain ⟨h33, hM⟩ := o_gd hM
                    obtain ⟨h34, hM⟩ := o_gd hM
                    obtain ⟨h35, hM⟩ := o_gd hM
                    obtain ⟨h36, hM⟩ := o_gd hM
                    refine va_copyi hx hb (by rw [hml]; exact hl.1.symm) hown k1 k2 k3 k4 hK.1 hP hD hS 5 3 0 0 rfl rfl rfl rfl rfl h32 h33 h34 h35 h36 (fun _ _ => rfl) (Nat.le_of_ble_eq_true rfl) (Nat.le_of_ble_eq_true rfl) dX8_copy_121 (fun H locs hP hD hS => ?_)
                    have hP : va_P D vwCl (w_Tq_copy cI cJ cS q_t q_t_plan q_t_counter q_t_choices q_t_ringers q_t_readings q_t_sheets q_t_sh0 q_t_sh0_cells q_t_sh1 q_t_sh1_cells q_t_sh2 q_t_sh2_cells q_t_sh3 q_t_sh3_cells t_traced t_lastFault t_sh_lane t_sh_size (va_up t_sh_cells 0 (va_cpy (t_sh_cells 1) (t_sh_cells 0) p_i.toNatClampNeg p_j.toNatClampNeg p_n.toNatClampNeg))) H := hP
                    have hD : va_D A (w_Tq_copy cI cJ cS q_t q_t_plan q_t_counter q_t_choices q_t_ringers q_t_readings q_t_sheets q_t_sh0 q_t_sh0_cells q_t_sh1 q_t_sh1_cells q_t_sh2 q_t_sh2_cells q_t_sh3 q_t_sh3_cells t_traced t_lastFault t_sh_lane t_sh_size (va_up t_sh_cells 0 (va_cpy (t_sh_cells 1) (t_sh_cells 0) p_i.toNatClampNeg p_j.toNatClampNeg p_n.toNatClampNeg))) := hD
                    refine lv_aload_n hx hb dX8_copy_124 rfl (lv_at hl 2 rfl) ?_
                    refine lv_iload hx hb dX8_copy_125 (lv_at hl 7 rfl) ?_
                    obtain ⟨y37, h38, hM⟩ := o_bd hM
                    refine af_i (ws2 := (w_Tq_copy cI cJ cS q_t q_t_plan q_t_counter q_t_choices q_t_ringers q_t_readings q_t_sheets q_t_sh0 q_t_sh0_cells q_t_sh1 q_t_sh1_cells q_t_sh2 q_t_sh2_cells q_t_sh3 q_t_sh3_cells t_traced y37.2 t_sh_lane t_sh_size (va_up t_sh_cells 0 (va_cpy (t_sh_cells 1) (t_sh_cells 0) p_i.toNatClampNeg p_j.toNatClampNeg p_n.toNatClampNeg)))) (va_runV (As := [.int p_n]) (rest := []) ⟨hx, hb, hml, hown, hts⟩ (c_Tq_faultless l D cI cJ cS q_t q_t_plan q_t_counter q_t_choices q_t_ringers q_t_readings q_t_sheets t_traced t_lastFault p_n y37 h38 _) (cwV 1 hts gX8_copy_X8_faultless rfl rfl rfl (by decide +kernel) ⟨(Nat.le_of_ble_eq_true rfl), (Nat.le_of_ble_eq_true rfl)⟩) (pre_V hK hP hD [0] rfl rfl rfl rfl) rfl rfl hl.1 rfl (lv_room (Nat.le_of_ble_eq_true rfl)) dX8_copy_127 ⟨Nat.zero_le _, Nat.zero_le _⟩) hP hD hS hA [0] [1, 2, 3, 4, 5, 6, 7, 8, 9] [9, 0, 1, 2, 3, 4, 5, 6, 7, 8] rfl rfl rfl (by decide) rfl rfl (fun H locs hP hD hS => ?_)
                    have hM := (Option.some.inj hM)
                    subst hM
                    exact rt_i hx hb hr hlocks hP hD hS dX8_copy_130
                  · have hM := (o_if hM).1 c31
                    refine lv_aload_n hx hb dX8_copy_100 rfl (lv_at hl 2 rfl) ?_
                    refine lv_iconst (v := 3) hx hb dX8_copy_101 (by decide) ?_
                    obtain ⟨y39, h40, hM⟩ := o_bd hM
                    refine af_i (ws2 := (w_Tq_copy cI cJ cS q_t q_t_plan q_t_counter q_t_choices q_t_ringers q_t_readings q_t_sheets q_t_sh0 q_t_sh0_cells q_t_sh1 q_t_sh1_cells q_t_sh2 q_t_sh2_cells q_t_sh3 q_t_sh3_cells t_traced y39.2 t_sh_lane t_sh_size t_sh_cells)) (va_runV (As := [.int 3]) (rest := []) ⟨hx, hb, hml, hown, hts⟩ (c_Tq_faulted l D cI cJ cS q_t q_t_plan q_t_counter q_t_choices q_t_ringers q_t_readings q_t_sheets t_traced t_lastFault 3 y39 h40 _) (cwV 1 hts gX8_copy_X8_faulted rfl rfl rfl (by decide +kernel) ⟨(Nat.le_of_ble_eq_true rfl), (Nat.le_of_ble_eq_true rfl)⟩) (pre_V hK hP hD [0] rfl rfl rfl rfl) rfl rfl hl.1 rfl (lv_room (Nat.le_of_ble_eq_true rfl)) dX8_copy_102 ⟨Nat.zero_le _, Nat.zero_le _⟩) hP hD hS hA [0] [1, 2, 3, 4, 5, 6, 7, 8, 9] [9, 0, 1, 2, 3, 4, 5, 6, 7, 8] rfl rfl rfl (by decide) rfl rfl (fun H locs hP hD hS => ?_)
                    have hM := (Option.some.inj hM)
                    subst hM
                    exact rt_i hx hb hr hlocks hP hD hS dX8_copy_105
              · have hM := (o_if hM).2 c23
                refine lv_aload_n hx hb dX8_copy_71 rfl (lv_at hl 2 rfl) ?_
                refine lv_iconst (v := 2) hx hb dX8_copy_72 (by decide) ?_
                obtain ⟨y41, h42, hM⟩ := o_bd hM
                refine af_i (ws2 := (w_Tq_copy cI cJ cS q_t q_t_plan q_t_counter q_t_choices q_t_ringers q_t_readings q_t_sheets q_t_sh0 q_t_sh0_cells q_t_sh1 q_t_sh1_cells q_t_sh2 q_t_sh2_cells q_t_sh3 q_t_sh3_cells t_traced y41.2 t_sh_lane t_sh_size t_sh_cells)) (va_runV (As := [.int 2]) (rest := []) ⟨hx, hb, hml, hown, hts⟩ (c_Tq_faulted l D cI cJ cS q_t q_t_plan q_t_counter q_t_choices q_t_ringers q_t_readings q_t_sheets t_traced t_lastFault 2 y41 h42 _) (cwV 1 hts gX8_copy_X8_faulted rfl rfl rfl (by decide +kernel) ⟨(Nat.le_of_ble_eq_true rfl), (Nat.le_of_ble_eq_true rfl)⟩) (pre_V hK hP hD [0] rfl rfl rfl rfl) rfl rfl hl.1 rfl (lv_room (Nat.le_of_ble_eq_true rfl)) dX8_copy_73 ⟨Nat.zero_le _, Nat.zero_le _⟩) hP hD hS hA [0] [1, 2, 3, 4, 5, 6, 7, 8, 9] [9, 0, 1, 2, 3, 4, 5, 6, 7, 8] rfl rfl rfl (by decide) rfl rfl (fun H locs hP hD hS => ?_)
                have hM := (Option.some.inj hM)
                subst hM
                exact rt_i hx hb hr hlocks hP hD hS dX8_copy_76
            · have hM := (o_if hM).2 c20
              refine lv_aload_n hx hb dX8_copy_52 rfl (lv_at hl 2 rfl) ?_
              refine lv_iconst (v := 1) hx hb dX8_copy_53 (by decide) ?_
              obtain ⟨y43, h44, hM⟩ := o_bd hM
              refine af_i (ws2 := (w_Tq_copy cI cJ cS q_t q_t_plan q_t_counter q_t_choices q_t_ringers q_t_readings q_t_sheets q_t_sh0 q_t_sh0_cells q_t_sh1 q_t_sh1_cells q_t_sh2 q_t_sh2_cells q_t_sh3 q_t_sh3_cells t_traced y43.2 t_sh_lane t_sh_size t_sh_cells)) (va_runV (As := [.int 1]) (rest := []) ⟨hx, hb, hml, hown, hts⟩ (c_Tq_faulted l D cI cJ cS q_t q_t_plan q_t_counter q_t_choices q_t_ringers q_t_readings q_t_sheets t_traced t_lastFault 1 y43 h44 _) (cwV 1 hts gX8_copy_X8_faulted rfl rfl rfl (by decide +kernel) ⟨(Nat.le_of_ble_eq_true rfl), (Nat.le_of_ble_eq_true rfl)⟩) (pre_V hK hP hD [0] rfl rfl rfl rfl) rfl rfl hl.1 rfl (lv_room (Nat.le_of_ble_eq_true rfl)) dX8_copy_54 ⟨Nat.zero_le _, Nat.zero_le _⟩) hP hD hS hA [0] [1, 2, 3, 4, 5, 6, 7, 8, 9] [9, 0, 1, 2, 3, 4, 5, 6, 7, 8] rfl rfl rfl (by decide) rfl rfl (fun H locs hP hD hS => ?_)
              have hM := (Option.some.inj hM)
              subst hM
              exact rt_i hx hb hr hlocks hP hD hS dX8_copy_57
        · refine W.eq (g2 := F0 m 34 ls [.ref q_t_sh1]) rfl ?_
          refine lv_astore (lv' := [(7, .ref q_t_sh1), (6, .ref q_t_sh1), (0, .ref q_t), (1, .int p_k), (2, .int p_i), (3, .int p_other), (4, .int p_j), (5, .int p_n)]) hx hb dX8_copy_34 hl (Nat.le_of_ble_eq_true rfl) rfl (fun ls hl => ?_)
          refine lv_aload hx hb dX8_copy_36 (lv_at hl 1 rfl) ?_
          obtain ⟨y13, h14, hM⟩ := o_bd hM
          refine af_i (ws2 := (w_Tq_copy cI cJ cS q_t q_t_plan q_t_counter q_t_choices q_t_ringers q_t_readings q_t_sheets q_t_sh0 q_t_sh0_cells q_t_sh1 q_t_sh1_cells q_t_sh2 q_t_sh2_cells q_t_sh3 q_t_sh3_cells t_traced t_lastFault t_sh_lane t_sh_size t_sh_cells)) (va_runV (As := []) (rest := []) ⟨hx, hb, hml, hown, hts⟩ (c_Sh_hasNothing l D cI cJ cS q_t_sh1 q_t_sh1_cells (t_sh_lane 1) (t_sh_size 1) y13 h14 _) (cwV 0 hts gX8_copy_X6_hasNothing rfl rfl rfl (by decide +kernel) ⟨(Nat.le_of_ble_eq_true rfl), (Nat.le_of_ble_eq_true rfl)⟩) (pre_V hK hP hD [4] rfl rfl rfl rfl) rfl rfl hl.1 rfl (lv_room (Nat.le_of_ble_eq_true rfl)) dX8_copy_38 ⟨Nat.zero_le _, Nat.zero_le _⟩) hP hD hS hA [4] [0, 1, 2, 3, 5, 6, 7, 8, 9] [0, 1, 2, 3, 9, 4, 5, 6, 7, 8] rfl rfl rfl (by decide) rfl rfl (fun H locs hP hD hS => ?_)
          refine lv_if_ne (tgt := 52) hx hb dX8_copy_41 (by decide) (fun c15 => ?_) (fun c15 => ?_)
          · have hM := (o_if hM).2 c15
            refine lv_aload_n hx hb dX8_copy_52 rfl (lv_at hl 2 rfl) ?_
            refine lv_iconst (v := 1) hx hb dX8_copy_53 (by decide) ?_
            obtain ⟨y16, h17, hM⟩ := o_bd hM
            refine af_i (ws2 := (w_Tq_copy cI cJ cS q_t q_t_plan q_t_counter q_t_choices q_t_ringers q_t_readings q_t_sheets q_t_sh0 q_t_sh0_cells q_t_sh1 q_t_sh1_cells q_t_sh2 q_t_sh2_cells q_t_sh3 q_t_sh3_cells t_traced y16.2 t_sh_lane t_sh_size t_sh_cells)) (va_runV (As := [.int 1]) (rest := []) ⟨hx, hb, hml, hown, hts⟩ (c_Tq_faulted l D cI cJ cS q_t q_t_plan q_t_counter q_t_choices q_t_ringers q_t_readings q_t_sheets t_traced t_lastFault 1 y16 h17 _) (cwV 1 hts gX8_copy_X8_faulted rfl rfl rfl (by decide +kernel) ⟨(Nat.le_of_ble_eq_true rfl), (Nat.le_of_ble_eq_true rfl)⟩) (pre_V hK hP hD [0] rfl rfl rfl rfl) rfl rfl hl.1 rfl (lv_room (Nat.le_of_ble_eq_true rfl)) dX8_copy_54 ⟨Nat.zero_le _, Nat.zero_le _⟩) hP hD hS hA [0] [1, 2, 3, 4, 5, 6, 7, 8, 9] [9, 0, 1, 2, 3, 4, 5, 6, 7, 8] rfl rfl rfl (by decide) rfl rfl (fun H locs hP hD hS => ?_)
            have hM := (Option.some.inj hM)
            subst hM
            exact rt_i hx hb hr hlocks hP hD hS dX8_copy_57
          · have hM := (o_if hM).1 c15
            refine lv_aload hx hb dX8_copy_44 (lv_at hl 0 rfl) ?_
            obtain ⟨y18, h19, hM⟩ := o_bd hM
            refine af_i (ws2 := (w_Tq_copy cI cJ cS q_t q_t_plan q_t_counter q_t_choices q_t_ringers q_t_readings q_t_sheets q_t_sh0 q_t_sh0_cells q_t_sh1 q_t_sh1_cells q_t_sh2 q_t_sh2_cells q_t_sh3 q_t_sh3_cells t_traced t_lastFault t_sh_lane t_sh_size t_sh_cells)) (va_runV (As := []) (rest := []) ⟨hx, hb, hml, hown, hts⟩ (c_Sh_hasNothing l D cI cJ cS q_t_sh1 q_t_sh1_cells (t_sh_lane 1) (t_sh_size 1) y18 h19 _) (cwV 0 hts gX8_copy_X6_hasNothing rfl rfl rfl (by decide +kernel) ⟨(Nat.le_of_ble_eq_true rfl), (Nat.le_of_ble_eq_true rfl)⟩) (pre_V hK hP hD [4] rfl rfl rfl rfl) rfl rfl hl.1 rfl (lv_room (Nat.le_of_ble_eq_true rfl)) dX8_copy_46 ⟨Nat.zero_le _, Nat.zero_le _⟩) hP hD hS hA [4] [0, 1, 2, 3, 5, 6, 7, 8, 9] [0, 1, 2, 3, 9, 4, 5, 6, 7, 8] rfl rfl rfl (by decide) rfl rfl (fun H locs hP hD hS => ?_)
            refine lv_if_eq (tgt := 58) hx hb dX8_copy_49 (by decide) (fun c20 => ?_) (fun c20 => ?_)
            · have hM := (o_if hM).1 c20
              refine lv_aload hx hb dX8_copy_58 (lv_at hl 0 rfl) ?_
              refine lv_aload hx hb dX8_copy_60 (lv_at hl 1 rfl) ?_
              refine va_getN (ci := 6) (v := .int (t_sh_lane 1)) (C := RX6) (T := TX6) (N := 3) (host := RX8) hx hb hts iX6 hown hK.1 hP 4 rfl rfl 1 (Nat.le_of_ble_eq_true rfl) (va_Nw.use rfl hK.2.2.2.2.2.2.2.2.2.2.2.2.2.2.2.2.2.1) (fun _ h9 => h9) rfl dX8_copy_62 ?_
              obtain ⟨y21, h22, hM⟩ := o_bd hM
              refine af_i (ws2 := (w_Tq_copy cI cJ cS q_t q_t_plan q_t_counter q_t_choices q_t_ringers q_t_readings q_t_sheets q_t_sh0 q_t_sh0_cells q_t_sh1 q_t_sh1_cells q_t_sh2 q_t_sh2_cells q_t_sh3 q_t_sh3_cells t_traced t_lastFault t_sh_lane t_sh_size t_sh_cells)) (va_runV (As := [.int (t_sh_lane 1)]) (rest := []) ⟨hx, hb, hml, hown, hts⟩ (c_Sh_isOfAnother l D cI cJ cS q_t_sh1 q_t_sh1_cells (t_sh_lane 1) (t_sh_size 1) (t_sh_lane 1) y21 h22 _) (cwV 1 hts gX8_copy_X6_isOfAnother rfl rfl rfl (by decide +kernel) ⟨(Nat.le_of_ble_eq_true rfl), (Nat.le_of_ble_eq_true rfl)⟩) (pre_V hK hP hD [4] rfl rfl rfl rfl) rfl rfl hl.1 rfl (lv_room (Nat.le_of_ble_eq_true rfl)) dX8_copy_65 ⟨Nat.zero_le _, Nat.zero_le _⟩) hP hD hS hA [4] [0, 1, 2, 3, 5, 6, 7, 8, 9] [0, 1, 2, 3, 9, 4, 5, 6, 7, 8] rfl rfl rfl (by decide) rfl rfl (fun H locs hP hD hS => ?_)
              refine lv_if_eq (tgt := 77) hx hb dX8_copy_68 (by decide) (fun c23 => ?_) (fun c23 => ?_)
              · have hM := (o_if hM).1 c23
                refine lv_aload hx hb dX8_copy_77 (lv_at hl 1 rfl) ?_
                refine lv_iload_n hx hb dX8_copy_79 rfl (lv_at hl 4 rfl) ?_
                refine lv_iload hx hb dX8_copy_80 (lv_at hl 7 rfl) ?_
                obtain ⟨y24, h25, hM⟩ := o_bd hM
                refine af_i (ws2 := (w_Tq_copy cI cJ cS q_t q_t_plan q_t_counter q_t_choices q_t_ringers q_t_readings q_t_sheets q_t_sh0 q_t_sh0_cells q_t_sh1 q_t_sh1_cells q_t_sh2 q_t_sh2_cells q_t_sh3 q_t_sh3_cells t_traced t_lastFault t_sh_lane t_sh_size t_sh_cells)) (va_runV (As := [.int p_i, .int p_n]) (rest := []) ⟨hx, hb, hml, hown, hts⟩ (c_Sh_holds l D cI cJ cS q_t_sh1 q_t_sh1_cells (t_sh_lane 1) (t_sh_size 1) p_i p_n y24 h25 _) (cwV 2 hts gX8_copy_X6_holds rfl rfl rfl (by decide +kernel) ⟨(Nat.le_of_ble_eq_true rfl), (Nat.le_of_ble_eq_true rfl)⟩) (pre_V hK hP hD [4] rfl rfl rfl rfl) rfl rfl hl.1 rfl (lv_room (Nat.le_of_ble_eq_true rfl)) dX8_copy_82 ⟨Nat.zero_le _, Nat.zero_le _⟩) hP hD hS hA [4] [0, 1, 2, 3, 5, 6, 7, 8, 9] [0, 1, 2, 3, 9, 4, 5, 6, 7, 8] rfl rfl rfl (by decide) rfl rfl (fun H locs hP hD hS => ?_)
                refine lv_if_eq (tgt := 100) hx hb dX8_copy_85 (by decide) (fun c26 => ?_) (fun c26 => ?_)
                · have hM := (o_if hM).1 c26
                  refine lv_aload_n hx hb dX8_copy_100 rfl (lv_at hl 2 rfl) ?_
                  refine lv_iconst (v := 3) hx hb dX8_copy_101 (by decide) ?_
                  obtain ⟨y27, h28, hM⟩ := o_bd hM
                  refine af_i (ws2 := (w_Tq_copy cI cJ cS q_t q_t_plan q_t_counter q_t_choices q_t_ringers q_t_readings q_t_sheets q_t_sh0 q_t_sh0_cells q_t_sh1 q_t_sh1_cells q_t_sh2 q_t_sh2_cells q_t_sh3 q_t_sh3_cells t_traced y27.2 t_sh_lane t_sh_size t_sh_cells)) (va_runV (As := [.int 3]) (rest := []) ⟨hx, hb, hml, hown, hts⟩ (c_Tq_faulted l D cI cJ cS q_t q_t_plan q_t_counter q_t_choices q_t_ringers q_t_readings q_t_sheets t_traced t_lastFault 3 y27 h28 _) (cwV 1 hts gX8_copy_X8_faulted rfl rfl rfl (by decide +kernel) ⟨(Nat.le_of_ble_eq_true rfl), (Nat.le_of_ble_eq_true rfl)⟩) (pre_V hK hP hD [0] rfl rfl rfl rfl) rfl rfl hl.1 rfl (lv_room (Nat.le_of_ble_eq_true rfl)) dX8_copy_102 ⟨Nat.zero_le _, Nat.zero_le _⟩) hP hD hS hA [0] [1, 2, 3, 4, 5, 6, 7, 8, 9] [9, 0, 1, 2, 3, 4, 5, 6, 7, 8] rfl rfl rfl (by decide) rfl rfl (fun H locs hP hD hS => ?_)
                  have hM := (Option.some.inj hM)
                  subst hM
                  exact rt_i hx hb hr hlocks hP hD hS dX8_copy_105
                · have hM := (o_if hM).2 c26
                  refine lv_aload hx hb dX8_copy_88 (lv_at hl 0 rfl) ?_
                  refine lv_iload hx hb dX8_copy_90 (lv_at hl 6 rfl) ?_
                  refine lv_iload hx hb dX8_copy_92 (lv_at hl 7 rfl) ?_
                  obtain ⟨y29, h30, hM⟩ := o_bd hM
                  refine af_i (ws2 := (w_Tq_copy cI cJ cS q_t q_t_plan q_t_counter q_t_choices q_t_ringers q_t_readings q_t_sheets q_t_sh0 q_t_sh0_cells q_t_sh1 q_t_sh1_cells q_t_sh2 q_t_sh2_cells q_t_sh3 q_t_sh3_cells t_traced t_lastFault t_sh_lane t_sh_size t_sh_cells)) (va_runV (As := [.int p_j, .int p_n]) (rest := []) ⟨hx, hb, hml, hown, hts⟩ (c_Sh_holds l D cI cJ cS q_t_sh1 q_t_sh1_cells (t_sh_lane 1) (t_sh_size 1) p_j p_n y29 h30 _) (cwV 2 hts gX8_copy_X6_holds rfl rfl rfl (by decide +kernel) ⟨(Nat.le_of_ble_eq_true rfl), (Nat.le_of_ble_eq_true rfl)⟩) (pre_V hK hP hD [4] rfl rfl rfl rfl) rfl rfl hl.1 rfl (lv_room (Nat.le_of_ble_eq_true rfl)) dX8_copy_94 ⟨Nat.zero_le _, Nat.zero_le _⟩) hP hD hS hA [4] [0, 1, 2, 3, 5, 6, 7, 8, 9] [0, 1, 2, 3, 9, 4, 5, 6, 7, 8] rfl rfl rfl (by decide) rfl rfl (fun H locs hP hD hS => ?_)
                  refine lv_if_ne (tgt := 106) hx hb dX8_copy_97 (by decide) (fun c31 => ?_) (fun c31 => ?_)
                  · have hM := (o_if hM).2 c31
                    refine lv_aload hx hb dX8_copy_106 (lv_at hl 1 rfl) ?_
                    refine va_getN (ci := 6) (v := .ref q_t_sh1_cells) (C := RX6) (T := TX6) (N := 3) (host := RX8) hx hb hts iX6 hown hK.1 hP 4 rfl rfl 0 (Nat.le_of_ble_eq_true rfl) (va_Nw.use rfl hK.2.2.2.2.2.2.2.2.2.2.2.2.2.2.2.2.2.2.1) (fun _ h9 => h9) rfl dX8_copy_108 ?_
                    refine lv_iload_n hx hb dX8_copy_111 rfl (lv_at hl 4 rfl) ?_
                    refine lv_aload hx hb dX8_copy_112 (lv_at hl 0 rfl) ?_
                    refine va_getN (ci := 6) (v := .ref q_t_sh1_cells) (C := RX6) (T := TX6) (N := 3) (host := RX8) hx hb hts iX6 hown hK.1 hP 4 rfl rfl 0 (Nat.le_of_ble_eq_true rfl) (va_Nw.use rfl hK.2.2.2.2.2.2.2.2.2.2.2.2.2.2.2.2.2.2.1) (fun _ h9 => h9) rfl dX8_copy_114 ?_
                    refine lv_iload hx hb dX8_copy_117 (lv_at hl 6 rfl) ?_
                    refine lv_iload hx hb dX8_copy_119 (lv_at hl 7 rfl) ?_
                    obtain ⟨h32, hM⟩ := o_gd hM
                    obtain ⟨h33, hM⟩ := o_gd hM
                    obtain ⟨h34, hM⟩ := o_gd hM
                    obtain ⟨h35, hM⟩ := o_gd hM
                    obtain ⟨h36, hM⟩ := o_gd hM
                    refine va_copyi hx hb (by rw [hml]; exact hl.1.symm) hown k1 k2 k3 k4 hK.1 hP hD hS 5 5 0 0 rfl rfl rfl rfl rfl h32 h33 h34 h35 h36 (fun _ _ => rfl) (Nat.le_of_ble_eq_true rfl) (Nat.le_of_ble_eq_true rfl) dX8_copy_121 (fun H locs hP hD hS => ?_)
                    have hP : va_P D vwCl (w_Tq_copy cI cJ cS q_t q_t_plan q_t_counter q_t_choices q_t_ringers q_t_readings q_t_sheets q_t_sh0 q_t_sh0_cells q_t_sh1 q_t_sh1_cells q_t_sh2 q_t_sh2_cells q_t_sh3 q_t_sh3_cells t_traced t_lastFault t_sh_lane t_sh_size (va_up t_sh_cells 1 (va_cpy (t_sh_cells 1) (t_sh_cells 1) p_i.toNatClampNeg p_j.toNatClampNeg p_n.toNatClampNeg))) H := hP
                    have hD : va_D A (w_Tq_copy cI cJ cS q_t q_t_plan q_t_counter q_t_choices q_t_ringers q_t_readings q_t_sheets q_t_sh0 q_t_sh0_cells q_t_sh1 q_t_sh1_cells q_t_sh2 q_t_sh2_cells q_t_sh3 q_t_sh3_cells t_traced t_lastFault t_sh_lane t_sh_size (va_up t_sh_cells 1 (va_cpy (t_sh_cells 1) (t_sh_cells 1) p_i.toNatClampNeg p_j.toNatClampNeg p_n.toNatClampNeg))) := hD
                    refine lv_aload_n hx hb dX8_copy_124 rfl (lv_at hl 2 rfl) ?_
                    refine lv_iload hx hb dX8_copy_125 (lv_at hl 7 rfl) ?_
                    obtain ⟨y37, h38, hM⟩ := o_bd hM
                    refine af_i (ws2 := (w_Tq_copy cI cJ cS q_t q_t_plan q_t_counter q_t_choices q_t_ringers q_t_readings q_t_sheets q_t_sh0 q_t_sh0_cells q_t_sh1 q_t_sh1_cells q_t_sh2 q_t_sh2_cells q_t_sh3 q_t_sh3_cells t_traced y37.2 t_sh_lane t_sh_size (va_up t_sh_cells 1 (va_cpy (t_sh_cells 1) (t_sh_cells 1) p_i.toNatClampNeg p_j.toNatClampNeg p_n.toNatClampNeg)))) (va_runV (As := [.int p_n]) (rest := []) ⟨hx, hb, hml, hown, hts⟩ (c_Tq_faultless l D cI cJ cS q_t q_t_plan q_t_counter q_t_choices q_t_ringers q_t_readings q_t_sheets t_traced t_lastFault p_n y37 h38 _) (cwV 1 hts gX8_copy_X8_faultless rfl rfl rfl (by decide +kernel) ⟨(Nat.le_of_ble_eq_true rfl), (Nat.le_of_ble_eq_true rfl)⟩) (pre_V hK hP hD [0] rfl rfl rfl rfl) rfl rfl hl.1 rfl (lv_room (Nat.le_of_ble_eq_true rfl)) dX8_copy_127 ⟨Nat.zero_le _, Nat.zero_le _⟩) hP hD hS hA [0] [1, 2, 3, 4, 5, 6, 7, 8, 9] [9, 0, 1, 2, 3, 4, 5, 6, 7, 8] rfl rfl rfl (by decide) rfl rfl (fun H locs hP hD hS => ?_)
                    have hM := (Option.some.inj hM)
                    subst hM
                    exact rt_i hx hb hr hlocks hP hD hS dX8_copy_130
                  · have hM := (o_if hM).1 c31
                    refine lv_aload_n hx hb dX8_copy_100 rfl (lv_at hl 2 rfl) ?_
                    refine lv_iconst (v := 3) hx hb dX8_copy_101 (by decide) ?_
                    obtain ⟨y39, h40, hM⟩ := o_bd hM
                    refine af_i (ws2 := (w_Tq_copy cI cJ cS q_t q_t_plan q_t_counter q_t_choices q_t_ringers q_t_readings q_t_sheets q_t_sh0 q_t_sh0_cells q_t_sh1 q_t_sh1_cells q_t_sh2 q_t_sh2_cells q_t_sh3 q_t_sh3_cells t_traced y39.2 t_sh_lane t_sh_size t_sh_cells)) (va_runV (As := [.int 3]) (rest := []) ⟨hx, hb, hml, hown, hts⟩ (c_Tq_faulted l D cI cJ cS q_t q_t_plan q_t_counter q_t_choices q_t_ringers q_t_readings q_t_sheets t_traced t_lastFault 3 y39 h40 _) (cwV 1 hts gX8_copy_X8_faulted rfl rfl rfl (by decide +kernel) ⟨(Nat.le_of_ble_eq_true rfl), (Nat.le_of_ble_eq_true rfl)⟩) (pre_V hK hP hD [0] rfl rfl rfl rfl) rfl rfl hl.1 rfl (lv_room (Nat.le_of_ble_eq_true rfl)) dX8_copy_102 ⟨Nat.zero_le _, Nat.zero_le _⟩) hP hD hS hA [0] [1, 2, 3, 4, 5, 6, 7, 8, 9] [9, 0, 1, 2, 3, 4, 5, 6, 7, 8] rfl rfl rfl (by decide) rfl rfl (fun H locs hP hD hS => ?_)
                    have hM := (Option.some.inj hM)
                    subst hM
                    exact rt_i hx hb hr hlocks hP hD hS dX8_copy_105
              · have hM := (o_if hM).2 c23
                refine lv_aload_n hx hb dX8_copy_71 rfl (lv_at hl 2 rfl) ?_
                refine lv_iconst (v := 2) hx hb dX8_copy_72 (by decide) ?_
                obtain ⟨y41, h42, hM⟩ := o_bd hM
                refine af_i (ws2 := (w_Tq_copy cI cJ cS q_t q_t_plan q_t_counter q_t_choices q_t_ringers q_t_readings q_t_sheets q_t_sh0 q_t_sh0_cells q_t_sh1 q_t_sh1_cells q_t_sh2 q_t_sh2_cells q_t_sh3 q_t_sh3_cells t_traced y41.2 t_sh_lane t_sh_size t_sh_cells)) (va_runV (As := [.int 2]) (rest := []) ⟨hx, hb, hml, hown, hts⟩ (c_Tq_faulted l D cI cJ cS q_t q_t_plan q_t_counter q_t_choices q_t_ringers q_t_readings q_t_sheets t_traced t_lastFault 2 y41 h42 _) (cwV 1 hts gX8_copy_X8_faulted rfl rfl rfl (by decide +kernel) ⟨(Nat.le_of_ble_eq_true rfl), (Nat.le_of_ble_eq_true rfl)⟩) (pre_V hK hP hD [0] rfl rfl rfl rfl) rfl rfl hl.1 rfl (lv_room (Nat.le_of_ble_eq_true rfl)) dX8_copy_73 ⟨Nat.zero_le _, Nat.zero_le _⟩) hP hD hS hA [0] [1, 2, 3, 4, 5, 6, 7, 8, 9] [9, 0, 1, 2, 3, 4, 5, 6, 7, 8] rfl rfl rfl (by decide) rfl rfl (fun H locs hP hD hS => ?_)
                have hM := (Option.some.inj hM)
                subst hM
                exact rt_i hx hb hr hlocks hP hD hS dX8_copy_76
            · have hM := (o_if hM).2 c20
              refine lv_aload_n hx hb dX8_copy_52 rfl (lv_at hl 2 rfl) ?_
              refine lv_iconst (v := 1) hx hb dX8_copy_53 (by decide) ?_
              obtain ⟨y43, h44, hM⟩ := o_bd hM
              refine af_i (ws2 := (w_Tq_copy cI cJ cS q_t q_t_plan q_t_counter q_t_choices q_t_ringers q_t_readings q_t_sheets q_t_sh0 q_t_sh0_cells q_t_sh1 q_t_sh1_cells q_t_sh2 q_t_sh2_cells q_t_sh3 q_t_sh3_cells t_traced y43.2 t_sh_lane t_sh_size t_sh_cells)) (va_runV (As := [.int 1]) (rest := []) ⟨hx, hb, hml, hown, hts⟩ (c_Tq_faulted l D cI cJ cS q_t q_t_plan q_t_counter q_t_choices q_t_ringers q_t_readings q_t_sheets t_traced t_lastFault 1 y43 h44 _) (cwV 1 hts gX8_copy_X8_faulted rfl rfl rfl (by decide +kernel) ⟨(Nat.le_of_ble_eq_true rfl), (Nat.le_of_ble_eq_true rfl)⟩) (pre_V hK hP hD [0] rfl rfl rfl rfl) rfl rfl hl.1 rfl (lv_room (Nat.le_of_ble_eq_true rfl)) dX8_copy_54 ⟨Nat.zero_le _, Nat.zero_le _⟩) hP hD hS hA [0] [1, 2, 3, 4, 5, 6, 7, 8, 9] [9, 0, 1, 2, 3, 4, 5, 6, 7, 8] rfl rfl rfl (by decide) rfl rfl (fun H locs hP hD hS => ?_)
              have hM := (Option.some.inj hM)
              subst hM
              exact rt_i hx hb hr hlocks hP hD hS dX8_copy_57
        · refine W.eq (g2 := F0 m 34 ls [.ref q_t_sh2]) rfl ?_
          refine lv_astore (lv' := [(7, .ref q_t_sh2), (6, .ref q_t_sh1), (0, .ref q_t), (1, .int p_k), (2, .int p_i), (3, .int p_other), (4, .int p_j), (5, .int p_n)]) hx hb dX8_copy_34 hl (Nat.le_of_ble_eq_true rfl) rfl (fun ls hl => ?_)
          refine lv_aload hx hb dX8_copy_36 (lv_at hl 1 rfl) ?_
          obtain ⟨y13, h14, hM⟩ := o_bd hM
          refine af_i (ws2 := (w_Tq_copy cI cJ cS q_t q_t_plan q_t_counter q_t_choices q_t_ringers q_t_readings q_t_sheets q_t_sh0 q_t_sh0_cells q_t_sh1 q_t_sh1_cells q_t_sh2 q_t_sh2_cells q_t_sh3 q_t_sh3_cells t_traced t_lastFault t_sh_lane t_sh_size t_sh_cells)) (va_runV (As := []) (rest := []) ⟨hx, hb, hml, hown, hts⟩ (c_Sh_hasNothing l D cI cJ cS q_t_sh1 q_t_sh1_cells (t_sh_lane 1) (t_sh_size 1) y13 h14 _) (cwV 0 hts gX8_copy_X6_hasNothing rfl rfl rfl (by decide +kernel) ⟨(Nat.le_of_ble_eq_true rfl), (Nat.le_of_ble_eq_true rfl)⟩) (pre_V hK hP hD [4] rfl rfl rfl rfl) rfl rfl hl.1 rfl (lv_room (Nat.le_of_ble_eq_true rfl)) dX8_copy_38 ⟨Nat.zero_le _, Nat.zero_le _⟩) hP hD hS hA [4] [0, 1, 2, 3, 5, 6, 7, 8, 9] [0, 1, 2, 3, 9, 4, 5, 6, 7, 8] rfl rfl rfl (by decide) rfl rfl (fun H locs hP hD hS => ?_)
          refine lv_if_ne (tgt := 52) hx hb dX8_copy_41 (by decide) (fun c15 => ?_) (fun c15 => ?_)
          · have hM := (o_if hM).2 c15
            refine lv_aload_n hx hb dX8_copy_52 rfl (lv_at hl 2 rfl) ?_
            refine lv_iconst (v := 1) hx hb dX8_copy_53 (by decide) ?_
            obtain ⟨y16, h17, hM⟩ := o_bd hM
            refine af_i (ws2 := (w_Tq_copy cI cJ cS q_t q_t_plan q_t_counter q_t_choices q_t_ringers q_t_readings q_t_sheets q_t_sh0 q_t_sh0_cells q_t_sh1 q_t_sh1_cells q_t_sh2 q_t_sh2_cells q_t_sh3 q_t_sh3_cells t_traced y16.2 t_sh_lane t_sh_size t_sh_cells)) (va_runV (As := [.int 1]) (rest := []) ⟨hx, hb, hml, hown, hts⟩ (c_Tq_faulted l D cI cJ cS q_t q_t_plan q_t_counter q_t_choices q_t_ringers q_t_readings q_t_sheets t_traced t_lastFault 1 y16 h17 _) (cwV 1 hts gX8_copy_X8_faulted rfl rfl rfl (by decide +kernel) ⟨(Nat.le_of_ble_eq_true rfl), (Nat.le_of_ble_eq_true rfl)⟩) (pre_V hK hP hD [0] rfl rfl rfl rfl) rfl rfl hl.1 rfl (lv_room (Nat.le_of_ble_eq_true rfl)) dX8_copy_54 ⟨Nat.zero_le _, Nat.zero_le _⟩) hP hD hS hA [0] [1, 2, 3, 4, 5, 6, 7, 8, 9] [9, 0, 1, 2, 3, 4, 5, 6, 7, 8] rfl rfl rfl (by decide) rfl rfl (fun H locs hP hD hS => ?_)
            have hM := (Option.some.inj hM)
            subst hM
            exact rt_i hx hb hr hlocks hP hD hS dX8_copy_57
          · have hM := (o_if hM).1 c15
            refine lv_aload hx hb dX8_copy_44 (lv_at hl 0 rfl) ?_
            obtain ⟨y18, h19, hM⟩ := o_bd hM
            refine af_i (ws2 := (w_Tq_copy cI cJ cS q_t q_t_plan q_t_counter q_t_choices q_t_ringers q_t_readings q_t_sheets q_t_sh0 q_t_sh0_cells q_t_sh1 q_t_sh1_cells q_t_sh2 q_t_sh2_cells q_t_sh3 q_t_sh3_cells t_traced t_lastFault t_sh_lane t_sh_size t_sh_cells)) (va_runV (As := []) (rest := []) ⟨hx, hb, hml, hown, hts⟩ (c_Sh_hasNothing l D cI cJ cS q_t_sh2 q_t_sh2_cells (t_sh_lane 2) (t_sh_size 2) y18 h19 _) (cwV 0 hts gX8_copy_X6_hasNothing rfl rfl rfl (by decide +kernel) ⟨(Nat.le_of_ble_eq_true rfl), (Nat.le_of_ble_eq_true rfl)⟩) (pre_V hK hP hD [6] rfl rfl rfl rfl) rfl rfl hl.1 rfl (lv_room (Nat.le_of_ble_eq_true rfl)) dX8_copy_46 ⟨Nat.zero_le _, Nat.zero_le _⟩) hP hD hS hA [6] [0, 1, 2, 3, 4, 5, 7, 8, 9] [0, 1, 2, 3, 4, 5, 9, 6, 7, 8] rfl rfl rfl (by decide) rfl rfl (fun H locs hP hD hS => ?_)
            refine lv_if_eq (tgt := 58) hx hb dX8_copy_49 (by decide) (fun c20 => ?_) (fun c20 => ?_)
            · have hM := (o_if hM).1 c20
              refine lv_aload hx hb dX8_copy_58 (lv_at hl 0 rfl) ?_
              refine lv_aload hx hb dX8_copy_60 (lv_at hl 1 rfl) ?_
              refine va_getN (ci := 6) (v := .int (t_sh_lane 1)) (C := RX6) (T := TX6) (N := 3) (host := RX8) hx hb hts iX6 hown hK.1 hP 4 rfl rfl 1 (Nat.le_of_ble_eq_true rfl) (va_Nw.use rfl hK.2.2.2.2.2.2.2.2.2.2.2.2.2.2.2.2.2.1) (fun _ h9 => h9) rfl dX8_copy_62 ?_
              obtain ⟨y21, h22, hM⟩ := o_bd hM
              refine af_i (ws2 := (w_Tq_copy cI cJ cS q_t q_t_plan q_t_counter q_t_choices q_t_ringers q_t_readings q_t_sheets q_t_sh0 q_t_sh0_cells q_t_sh1 q_t_sh1_cells q_t_sh2 q_t_sh2_cells q_t_sh3 q_t_sh3_cells t_traced t_lastFault t_sh_lane t_sh_size t_sh_cells)) (va_runV (As := [.int (t_sh_lane 1)]) (rest := []) ⟨hx, hb, hml, hown, hts⟩ (c_Sh_isOfAnother l D cI cJ cS q_t_sh2 q_t_sh2_cells (t_sh_lane 2) (t_sh_size 2) (t_sh_lane 1) y21 h22 _) (cwV 1 hts gX8_copy_X6_isOfAnother rfl rfl rfl (by decide +kernel) ⟨(Nat.le_of_ble_eq_true rfl), (Nat.le_of_ble_eq_true rfl)⟩) (pre_V hK hP hD [6] rfl rfl rfl rfl) rfl rfl hl.1 rfl (lv_room (Nat.le_of_ble_eq_true rfl)) dX8_copy_65 ⟨Nat.zero_le _, Nat.zero_le _⟩) hP hD hS hA [6] [0, 1, 2, 3, 4, 5, 7, 8, 9] [0, 1, 2, 3, 4, 5, 9, 6, 7, 8] rfl rfl rfl (by decide) rfl rfl (fun H locs hP hD hS => ?_)
              refine lv_if_eq (tgt := 77) hx hb dX8_copy_68 (by decide) (fun c23 => ?_) (fun c23 => ?_)
              · have hM := (o_if hM).1 c23
                refine lv_aload hx hb dX8_copy_77 (lv_at hl 1 rfl) ?_
                refine lv_iload_n hx hb dX8_copy_79 rfl (lv_at hl 4 rfl) ?_
                refine lv_iload hx hb dX8_copy_80 (lv_at hl 7 rfl) ?_
                obtain ⟨y24, h25, hM⟩ := o_bd hM
                refine af_i (ws2 := (w_Tq_copy cI cJ cS q_t q_t_plan q_t_counter q_t_choices q_t_ringers q_t_readings q_t_sheets q_t_sh0 q_t_sh0_cells q_t_sh1 q_t_sh1_cells q_t_sh2 q_t_sh2_cells q_t_sh3 q_t_sh3_cells t_traced t_lastFault t_sh_lane t_sh_size t_sh_cells)) (va_runV (As := [.int p_i, .int p_n]) (rest := []) ⟨hx, hb, hml, hown, hts⟩ (c_Sh_holds l D cI cJ cS q_t_sh1 q_t_sh1_cells (t_sh_lane 1) (t_sh_size 1) p_i p_n y24 h25 _) (cwV 2 hts gX8_copy_X6_holds rfl rfl rfl (by decide +kernel) ⟨(Nat.le_of_ble_eq_true rfl), (Nat.le_of_ble_eq_true rfl)⟩) (pre_V hK hP hD [4] rfl rfl rfl rfl) rfl rfl hl.1 rfl (lv_room (Nat.le_of_ble_eq_true rfl)) dX8_copy_82 ⟨Nat.zero_le _, Nat.zero_le _⟩) hP hD hS hA [4] [0, 1, 2, 3, 5, 6, 7, 8, 9] [0, 1, 2, 3, 9, 4, 5, 6, 7, 8] rfl rfl rfl (by decide) rfl rfl (fun H locs hP hD hS => ?_)
                refine lv_if_eq (tgt := 100) hx hb dX8_copy_85 (by decide) (fun c26 => ?_) (fun c26 => ?_)
                · have hM := (o_if hM).1 c26
                  refine lv_aload_n hx hb dX8_copy_100 rfl (lv_at hl 2 rfl) ?_
                  refine lv_iconst (v := 3) hx hb dX8_copy_101 (by decide) ?_
                  obtain ⟨y27, h28, hM⟩ := o_bd hM
                  refine af_i (ws2 := (w_Tq_copy cI cJ cS q_t q_t_plan q_t_counter q_t_choices q_t_ringers q_t_readings q_t_sheets q_t_sh0 q_t_sh0_cells q_t_sh1 q_t_sh1_cells q_t_sh2 q_t_sh2_cells q_t_sh3 q_t_sh3_cells t_traced y27.2 t_sh_lane t_sh_size t_sh_cells)) (va_runV (As := [.int 3]) (rest := []) ⟨hx, hb, hml, hown, hts⟩ (c_Tq_faulted l D cI cJ cS q_t q_t_plan q_t_counter q_t_choices q_t_ringers q_t_readings q_t_sheets t_traced t_lastFault 3 y27 h28 _) (cwV 1 hts gX8_copy_X8_faulted rfl rfl rfl (by decide +kernel) ⟨(Nat.le_of_ble_eq_true rfl), (Nat.le_of_ble_eq_true rfl)⟩) (pre_V hK hP hD [0] rfl rfl rfl rfl) rfl rfl hl.1 rfl (lv_room (Nat.le_of_ble_eq_true rfl)) dX8_copy_102 ⟨Nat.zero_le _, Nat.zero_le _⟩) hP hD hS hA [0] [1, 2, 3, 4, 5, 6, 7, 8, 9] [9, 0, 1, 2, 3, 4, 5, 6, 7, 8] rfl rfl rfl (by decide) rfl rfl (fun H locs hP hD hS => ?_)
                  have hM := (Option.some.inj hM)
                  subst hM
                  exact rt_i hx hb hr hlocks hP hD hS dX8_copy_105
                · have hM := (o_if hM).2 c26
                  refine lv_aload hx hb dX8_copy_88 (lv_at hl 0 rfl) ?_
                  refine lv_iload hx hb dX8_copy_90 (lv_at hl 6 rfl) ?_
                  refine lv_iload hx hb dX8_copy_92 (lv_at hl 7 rfl) ?_
                  obtain ⟨y29, h30, hM⟩ := o_bd hM
                  refine af_i (ws2 := (w_Tq_copy cI cJ cS q_t q_t_plan q_t_counter q_t_choices q_t_ringers q_t_readings q_t_sheets q_t_sh0 q_t_sh0_cells q_t_sh1 q_t_sh1_cells q_t_sh2 q_t_sh2_cells q_t_sh3 q_t_sh3_cells t_traced t_lastFault t_sh_lane t_sh_size t_sh_cells)) (va_runV (As := [.int p_j, .int p_n]) (rest := []) ⟨hx, hb, hml, hown, hts⟩ (c_Sh_holds l D cI cJ cS q_t_sh2 q_t_sh2_cells (t_sh_lane 2) (t_sh_size 2) p_j p_n y29 h30 _) (cwV 2 hts gX8_copy_X6_holds rfl rfl rfl (by decide +kernel) ⟨(Nat.le_of_ble_eq_true rfl), (Nat.le_of_ble_eq_true rfl)⟩) (pre_V hK hP hD [6] rfl rfl rfl rfl) rfl rfl hl.1 rfl (lv_room (Nat.le_of_ble_eq_true rfl)) dX8_copy_94 ⟨Nat.zero_le _, Nat.zero_le _⟩) hP hD hS hA [6] [0, 1, 2, 3, 4, 5, 7, 8, 9] [0, 1, 2, 3, 4, 5, 9, 6, 7, 8] rfl rfl rfl (by decide) rfl rfl (fun H locs hP hD hS => ?_)
                  refine lv_if_ne (tgt := 106) hx hb dX8_copy_97 (by decide) (fun c31 => ?_) (fun c31 => ?_)
                  · have hM := (o_if hM).2 c31
                    refine lv_aload hx hb dX8_copy_106 (lv_at hl 1 rfl) ?_
                    refine va_getN (ci := 6) (v := .ref q_t_sh1_cells) (C := RX6) (T := TX6) (N := 3) (host := RX8) hx hb hts iX6 hown hK.1 hP 4 rfl rfl 0 (Nat.le_of_ble_eq_true rfl) (va_Nw.use rfl hK.2.2.2.2.2.2.2.2.2.2.2.2.2.2.2.2.2.2.1) (fun _ h9 => h9) rfl dX8_copy_108 ?_
                    refine lv_iload_n hx hb dX8_copy_111 rfl (lv_at hl 4 rfl) ?_
                    refine lv_aload hx hb dX8_copy_112 (lv_at hl 0 rfl) ?_
                    refine va_getN (ci := 6) (v := .ref q_t_sh2_cells) (C := RX6) (T := TX6) (N := 3) (host := RX8) hx hb hts iX6 hown hK.1 hP 6 rfl rfl 0 (Nat.le_of_ble_eq_true rfl) (va_Nw.use rfl hK.2.2.2.2.2.2.2.2.2.2.2.2.2.2.2.2.2.2.1) (fun _ h9 => h9) rfl dX8_copy_114 ?_
                    refine lv_iload hx hb dX8_copy_117 (lv_at hl 6 rfl) ?_
                    refine lv_iload hx hb dX8_copy_119 (lv_at hl 7 rfl) ?_
                    obtain ⟨h32, hM⟩ := o_gd hM
                    obtain ⟨h33, hM⟩ := o_gd hM
                    obtain ⟨h34, hM⟩ := o_gd hM
                    obtain ⟨h35, hM⟩ := o_gd hM
                    obtain ⟨h36, hM⟩ := o_gd hM
                    refine va_copyi hx hb (by rw [hml]; exact hl.1.symm) hown k1 k2 k3 k4 hK.1 hP hD hS 5 7 0 0 rfl rfl rfl rfl rfl h32 h33 h34 h35 h36 (fun _ _ => rfl) (Nat.le_of_ble_eq_true rfl) (Nat.le_of_ble_eq_true rfl) dX8_copy_121 (fun H locs hP hD hS => ?_)
                    have hP : va_P D vwCl (w_Tq_copy cI cJ cS q_t q_t_plan q_t_counter q_t_choices q_t_ringers q_t_readings q_t_sheets q_t_sh0 q_t_sh0_cells q_t_sh1 q_t_sh1_cells q_t_sh2 q_t_sh2_cells q_t_sh3 q_t_sh3_cells t_traced t_lastFault t_sh_lane t_sh_size (va_up t_sh_cells 2 (va_cpy (t_sh_cells 1) (t_sh_cells 2) p_i.toNatClampNeg p_j.toNatClampNeg p_n.toNatClampNeg))) H := hP
                    have hD : va_D A (w_Tq_copy cI cJ cS q_t q_t_plan q_t_counter q_t_choices q_t_ringers q_t_readings q_t_sheets q_t_sh0 q_t_sh0_cells q_t_sh1 q_t_sh1_cells q_t_sh2 q_t_sh2_cells q_t_sh3 q_t_sh3_cells t_traced t_lastFault t_sh_lane t_sh_size (va_up t_sh_cells 2 (va_cpy (t_sh_cells 1) (t_sh_cells 2) p_i.toNatClampNeg p_j.toNatClampNeg p_n.toNatClampNeg))) := hD
                    refine lv_aload_n hx hb dX8_copy_124 rfl (lv_at hl 2 rfl) ?_
                    refine lv_iload hx hb dX8_copy_125 (lv_at hl 7 rfl) ?_
                    obtain ⟨y37, h38, hM⟩ := o_bd hM
                    refine af_i (ws2 := (w_Tq_copy cI cJ cS q_t q_t_plan q_t_counter q_t_choices q_t_ringers q_t_readings q_t_sheets q_t_sh0 q_t_sh0_cells q_t_sh1 q_t_sh1_cells q_t_sh2 q_t_sh2_cells q_t_sh3 q_t_sh3_cells t_traced y37.2 t_sh_lane t_sh_size (va_up t_sh_cells 2 (va_cpy (t_sh_cells 1) (t_sh_cells 2) p_i.toNatClampNeg p_j.toNatClampNeg p_n.toNatClampNeg)))) (va_runV (As := [.int p_n]) (rest := []) ⟨hx, hb, hml, hown, hts⟩ (c_Tq_faultless l D cI cJ cS q_t q_t_plan q_t_counter q_t_choices q_t_ringers q_t_readings q_t_sheets t_traced t_lastFault p_n y37 h38 _) (cwV 1 hts gX8_copy_X8_faultless rfl rfl rfl (by decide +kernel) ⟨(Nat.le_of_ble_eq_true rfl), (Nat.le_of_ble_eq_true rfl)⟩) (pre_V hK hP hD [0] rfl rfl rfl rfl) rfl rfl hl.1 rfl (lv_room (Nat.le_of_ble_eq_true rfl)) dX8_copy_127 ⟨Nat.zero_le _, Nat.zero_le _⟩) hP hD hS hA [0] [1, 2, 3, 4, 5, 6, 7, 8, 9] [9, 0, 1, 2, 3, 4, 5, 6, 7, 8] rfl rfl rfl (by decide) rfl rfl (fun H locs hP hD hS => ?_)
                    have hM := (Option.some.inj hM)
                    subst hM
                    exact rt_i hx hb hr hlocks hP hD hS dX8_copy_130
                  · have hM := (o_if hM).1 c31
                    refine lv_aload_n hx hb dX8_copy_100 rfl (lv_at hl 2 rfl) ?_
                    refine lv_iconst (v := 3) hx hb dX8_copy_101 (by decide) ?_
                    obtain ⟨y39, h40, hM⟩ := o_bd hM
                    refine af_i (ws2 := (w_Tq_copy cI cJ cS q_t q_t_plan q_t_counter q_t_choices q_t_ringers q_t_readings q_t_sheets q_t_sh0 q_t_sh0_cells q_t_sh1 q_t_sh1_cells q_t_sh2 q_t_sh2_cells q_t_sh3 q_t_sh3_cells t_traced y39.2 t_sh_lane t_sh_size t_sh_cells)) (va_runV (As := [.int 3]) (rest := []) ⟨hx, hb, hml, hown, hts⟩ (c_Tq_faulted l D cI cJ cS q_t q_t_plan q_t_counter q_t_choices q_t_ringers q_t_readings q_t_sheets t_traced t_lastFault 3 y39 h40 _) (cwV 1 hts gX8_copy_X8_faulted rfl rfl rfl (by decide +kernel) ⟨(Nat.le_of_ble_eq_true rfl), (Nat.le_of_ble_eq_true rfl)⟩) (pre_V hK hP hD [0] rfl rfl rfl rfl) rfl rfl hl.1 rfl (lv_room (Nat.le_of_ble_eq_true rfl)) dX8_copy_102 ⟨Nat.zero_le _, Nat.zero_le _⟩) hP hD hS hA [0] [1, 2, 3, 4, 5, 6, 7, 8, 9] [9, 0, 1, 2, 3, 4, 5, 6, 7, 8] rfl rfl rfl (by decide) rfl rfl (fun H locs hP hD hS => ?_)
                    have hM := (Option.some.inj hM)
                    subst hM
                    exact rt_i hx hb hr hlocks hP hD hS dX8_copy_105
              · have hM := (o_if hM).2 c23
                refine lv_aload_n hx hb dX8_copy_71 rfl (lv_at hl 2 rfl) ?_
                refine lv_iconst (v := 2) hx hb dX8_copy_72 (by decide) ?_
                obtain ⟨y41, h42, hM⟩ := o_bd hM
                refine af_i (ws2 := (w_Tq_copy cI cJ cS q_t q_t_plan q_t_counter q_t_choices q_t_ringers q_t_readings q_t_sheets q_t_sh0 q_t_sh0_cells q_t_sh1 q_t_sh1_cells q_t_sh2 q_t_sh2_cells q_t_sh3 q_t_sh3_cells t_traced y41.2 t_sh_lane t_sh_size t_sh_cells)) (va_runV (As := [.int 2]) (rest := []) ⟨hx, hb, hml, hown, hts⟩ (c_Tq_faulted l D cI cJ cS q_t q_t_plan q_t_counter q_t_choices q_t_ringers q_t_readings q_t_sheets t_traced t_lastFault 2 y41 h42 _) (cwV 1 hts gX8_copy_X8_faulted rfl rfl rfl (by decide +kernel) ⟨(Nat.le_of_ble_eq_true rfl), (Nat.le_of_ble_eq_true rfl)⟩) (pre_V hK hP hD [0] rfl rfl rfl rfl) rfl rfl hl.1 rfl (lv_room (Nat.le_of_ble_eq_true rfl)) dX8_copy_73 ⟨Nat.zero_le _, Nat.zero_le _⟩) hP hD hS hA [0] [1, 2, 3, 4, 5, 6, 7, 8, 9] [9, 0, 1, 2, 3, 4, 5, 6, 7, 8] rfl rfl rfl (by decide) rfl rfl (fun H locs hP hD hS => ?_)
                have hM := (Option.some.inj hM)
                subst hM
                exact rt_i hx hb hr hlocks hP hD hS dX8_copy_76
            · have hM := (o_if hM).2 c20
              refine lv_aload_n hx hb dX8_copy_52 rfl (lv_at hl 2 rfl) ?_
              refine lv_iconst (v := 1) hx hb dX8_copy_53 (by decide) ?_
              obtain ⟨y43, h44, hM⟩ := o_bd hM
              refine af_i (ws2 := (w_Tq_copy cI cJ cS q_t q_t_plan q_t_counter q_t_choices q_t_ringers q_t_readings q_t_sheets q_t_sh0 q_t_sh0_cells q_t_sh1 q_t_sh1_cells q_t_sh2 q_t_sh2_cells q_t_sh3 q_t_sh3_cells t_traced y43.2 t_sh_lane t_sh_size t_sh_cells)) (va_runV (As := [.int 1]) (rest := []) ⟨hx, hb, hml, hown, hts⟩ (c_Tq_faulted l D cI cJ cS q_t q_t_plan q_t_counter q_t_choices q_t_ringers q_t_readings q_t_sheets t_traced t_lastFault 1 y43 h44 _) (cwV 1 hts gX8_copy_X8_faulted rfl rfl rfl (by decide +kernel) ⟨(Nat.le_of_ble_eq_true rfl), (Nat.le_of_ble_eq_true rfl)⟩) (pre_V hK hP hD [0] rfl rfl rfl rfl) rfl rfl hl.1 rfl (lv_room (Nat.le_of_ble_eq_true rfl)) dX8_copy_54 ⟨Nat.zero_le _, Nat.zero_le _⟩) hP hD hS hA [0] [1, 2, 3, 4, 5, 6, 7, 8, 9] [9, 0, 1, 2, 3, 4, 5, 6, 7, 8] rfl rfl rfl (by decide) rfl rfl (fun H locs hP hD hS => ?_)
              have hM := (Option.some.inj hM)
              subst hM
              exact rt_i hx hb hr hlocks hP hD hS dX8_copy_57
        · refine W.eq (g2 := F0 m 34 ls [.ref q_t_sh3]) rfl ?_
          refine lv_astore (lv' := [(7, .ref q_t_sh3), (6, .ref q_t_sh1), (0, .ref q_t), (1, .int p_k), (2, .int p_i), (3, .int p_other), (4, .int p_j), (5, .int p_n)]) hx hb dX8_copy_34 hl (Nat.le_of_ble_eq_true rfl) rfl (fun ls hl => ?_)
          refine lv_aload hx hb dX8_copy_36 (lv_at hl 1 rfl) ?_
          obtain ⟨y13, h14, hM⟩ := o_bd hM
          refine af_i (ws2 := (w_Tq_copy cI cJ cS q_t q_t_plan q_t_counter q_t_choices q_t_ringers q_t_readings q_t_sheets q_t_sh0 q_t_sh0_cells q_t_sh1 q_t_sh1_cells q_t_sh2 q_t_sh2_cells q_t_sh3 q_t_sh3_cells t_traced t_lastFault t_sh_lane t_sh_size t_sh_cells)) (va_runV (As := []) (rest := []) ⟨hx, hb, hml, hown, hts⟩ (c_Sh_hasNothing l D cI cJ cS q_t_sh1 q_t_sh1_cells (t_sh_lane 1) (t_sh_size 1) y13 h14 _) (cwV 0 hts gX8_copy_X6_hasNothing rfl rfl rfl (by decide +kernel) ⟨(Nat.le_of_ble_eq_true rfl), (Nat.le_of_ble_eq_true rfl)⟩) (pre_V hK hP hD [4] rfl rfl rfl rfl) rfl rfl hl.1 rfl (lv_room (Nat.le_of_ble_eq_true rfl)) dX8_copy_38 ⟨Nat.zero_le _, Nat.zero_le _⟩) hP hD hS hA [4] [0, 1, 2, 3, 5, 6, 7, 8, 9] [0, 1, 2, 3, 9, 4, 5, 6, 7, 8] rfl rfl rfl (by decide) rfl rfl (fun H locs hP hD hS => ?_)
          refine lv_if_ne (tgt := 52) hx hb dX8_copy_41 (by decide) (fun c15 => ?_) (fun c15 => ?_)
          · have hM := (o_if hM).2 c15
            refine lv_aload_n hx hb dX8_copy_52 rfl (lv_at hl 2 rfl) ?_
            refine lv_iconst (v := 1) hx hb dX8_copy_53 (by decide) ?_
            obtain ⟨y16, h17, hM⟩ := o_bd hM
            refine af_i (ws2 := (w_Tq_copy cI cJ cS q_t q_t_plan q_t_counter q_t_choices q_t_ringers q_t_readings q_t_sheets q_t_sh0 q_t_sh0_cells q_t_sh1 q_t_sh1_cells q_t_sh2 q_t_sh2_cells q_t_sh3 q_t_sh3_cells t_traced y16.2 t_sh_lane t_sh_size t_sh_cells)) (va_runV (As := [.int 1]) (rest := []) ⟨hx, hb, hml, hown, hts⟩ (c_Tq_faulted l D cI cJ cS q_t q_t_plan q_t_counter q_t_choices q_t_ringers q_t_readings q_t_sheets t_traced t_lastFault 1 y16 h17 _) (cwV 1 hts gX8_copy_X8_faulted rfl rfl rfl (by decide +kernel) ⟨(Nat.le_of_ble_eq_true rfl), (Nat.le_of_ble_eq_true rfl)⟩) (pre_V hK hP hD [0] rfl rfl rfl rfl) rfl rfl hl.1 rfl (lv_room (Nat.le_of_ble_eq_true rfl)) dX8_copy_54 ⟨Nat.zero_le _, Nat.zero_le _⟩) hP hD hS hA [0] [1, 2, 3, 4, 5, 6, 7, 8, 9] [9, 0, 1, 2, 3, 4, 5, 6, 7, 8] rfl rfl rfl (by decide) rfl rfl (fun H locs hP hD hS => ?_)
            have hM := (Option.some.inj hM)
            subst hM
            exact rt_i hx hb hr hlocks hP hD hS dX8_copy_57
          · have hM := (o_if hM).1 c15
            refine lv_aload hx hb dX8_copy_44 (lv_at hl 0 rfl) ?_
            obtain ⟨y18, h19, hM⟩ := o_bd hM
            refine af_i (ws2 := (w_Tq_copy cI cJ cS q_t q_t_plan q_t_counter q_t_choices q_t_ringers q_t_readings q_t_sheets q_t_sh0 q_t_sh0_cells q_t_sh1 q_t_sh1_cells q_t_sh2 q_t_sh2_cells q_t_sh3 q_t_sh3_cells t_traced t_lastFault t_sh_lane t_sh_size t_sh_cells)) (va_runV (As := []) (rest := []) ⟨hx, hb, hml, hown, hts⟩ (c_Sh_hasNothing l D cI cJ cS q_t_sh3 q_t_sh3_cells (t_sh_lane 3) (t_sh_size 3) y18 h19 _) (cwV 0 hts gX8_copy_X6_hasNothing rfl rfl rfl (by decide +kernel) ⟨(Nat.le_of_ble_eq_true rfl), (Nat.le_of_ble_eq_true rfl)⟩) (pre_V hK hP hD [8] rfl rfl rfl rfl) rfl rfl hl.1 rfl (lv_room (Nat.le_of_ble_eq_true rfl)) dX8_copy_46 ⟨Nat.zero_le _, Nat.zero_le _⟩) hP hD hS hA [8] [0, 1, 2, 3, 4, 5, 6, 7, 9] [0, 1, 2, 3, 4, 5, 6, 7, 9, 8] rfl rfl rfl (by decide) rfl rfl (fun H locs hP hD hS => ?_)
            refine lv_if_eq (tgt := 58) hx hb dX8_copy_49 (by decide) (fun c20 => ?_) (fun c20 => ?_)
            · have hM := (o_if hM).1 c20
              refine lv_aload hx hb dX8_copy_58 (lv_at hl 0 rfl) ?_
              refine lv_aload hx hb dX8_copy_60 (lv_at hl 1 rfl) ?_
              refine va_getN (ci := 6) (v := .int (t_sh_lane 1)) (C := RX6) (T := TX6) (N := 3) (host := RX8) hx hb hts iX6 hown hK.1 hP 4 rfl rfl 1 (Nat.le_of_ble_eq_true rfl) (va_Nw.use rfl hK.2.2.2.2.2.2.2.2.2.2.2.2.2.2.2.2.2.1) (fun _ h9 => h9) rfl dX8_copy_62 ?_
              obtain ⟨y21, h22, hM⟩ := o_bd hM
              refine af_i (ws2 := (w_Tq_copy cI cJ cS q_t q_t_plan q_t_counter q_t_choices q_t_ringers q_t_readings q_t_sheets q_t_sh0 q_t_sh0_cells q_t_sh1 q_t_sh1_cells q_t_sh2 q_t_sh2_cells q_t_sh3 q_t_sh3_cells t_traced t_lastFault t_sh_lane t_sh_size t_sh_cells)) (va_runV (As := [.int (t_sh_lane 1)]) (rest := []) ⟨hx, hb, hml, hown, hts⟩ (c_Sh_isOfAnother l D cI cJ cS q_t_sh3 q_t_sh3_cells (t_sh_lane 3) (t_sh_size 3) (t_sh_lane 1) y21 h22 _) (cwV 1 hts gX8_copy_X6_isOfAnother rfl rfl rfl (by decide +kernel) ⟨(Nat.le_of_ble_eq_true rfl), (Nat.le_of_ble_eq_true rfl)⟩) (pre_V hK hP hD [8] rfl rfl rfl rfl) rfl rfl hl.1 rfl (lv_room (Nat.le_of_ble_eq_true rfl)) dX8_copy_65 ⟨Nat.zero_le _, Nat.zero_le _⟩) hP hD hS hA [8] [0, 1, 2, 3, 4, 5, 6, 7, 9] [0, 1, 2, 3, 4, 5, 6, 7, 9, 8] rfl rfl rfl (by decide) rfl rfl (fun H locs hP hD hS => ?_)
              refine lv_if_eq (tgt := 77) hx hb dX8_copy_68 (by decide) (fun c23 => ?_) (fun c23 => ?_)
              · have hM := (o_if hM).1 c23
                refine lv_aload hx hb dX8_copy_77 (lv_at hl 1 rfl) ?_
                refine lv_iload_n hx hb dX8_copy_79 rfl (lv_at hl 4 rfl) ?_
                refine lv_iload hx hb dX8_copy_80 (lv_at hl 7 rfl) ?_
                obtain ⟨y24, h25, hM⟩ := o_bd hM
                refine af_i (ws2 := (w_Tq_copy cI cJ cS q_t q_t_plan q_t_counter q_t_choices q_t_ringers q_t_readings q_t_sheets q_t_sh0 q_t_sh0_cells q_t_sh1 q_t_sh1_cells q_t_sh2 q_t_sh2_cells q_t_sh3 q_t_sh3_cells t_traced t_lastFault t_sh_lane t_sh_size t_sh_cells)) (va_runV (As := [.int p_i, .int p_n]) (rest := []) ⟨hx, hb, hml, hown, hts⟩ (c_Sh_holds l D cI cJ cS q_t_sh1 q_t_sh1_cells (t_sh_lane 1) (t_sh_size 1) p_i p_n y24 h25 _) (cwV 2 hts gX8_copy_X6_holds rfl rfl rfl (by decide +kernel) ⟨(Nat.le_of_ble_eq_true rfl), (Nat.le_of_ble_eq_true rfl)⟩) (pre_V hK hP hD [4] rfl rfl rfl rfl) rfl rfl hl.1 rfl (lv_room (Nat.le_of_ble_eq_true rfl)) dX8_copy_82 ⟨Nat.zero_le _, Nat.zero_le _⟩) hP hD hS hA [4] [0, 1, 2, 3, 5, 6, 7, 8, 9] [0, 1, 2, 3, 9, 4, 5, 6, 7, 8] rfl rfl rfl (by decide) rfl rfl (fun H locs hP hD hS => ?_)
                refine lv_if_eq (tgt := 100) hx hb dX8_copy_85 (by decide) (fun c26 => ?_) (fun c26 => ?_)
                · have hM := (o_if hM).1 c26
                  refine lv_aload_n hx hb dX8_copy_100 rfl (lv_at hl 2 rfl) ?_
                  refine lv_iconst (v := 3) hx hb dX8_copy_101 (by decide) ?_
                  obtain ⟨y27, h28, hM⟩ := o_bd hM
                  refine af_i (ws2 := (w_Tq_copy cI cJ cS q_t q_t_plan q_t_counter q_t_choices q_t_ringers q_t_readings q_t_sheets q_t_sh0 q_t_sh0_cells q_t_sh1 q_t_sh1_cells q_t_sh2 q_t_sh2_cells q_t_sh3 q_t_sh3_cells t_traced y27.2 t_sh_lane t_sh_size t_sh_cells)) (va_runV (As := [.int 3]) (rest := []) ⟨hx, hb, hml, hown, hts⟩ (c_Tq_faulted l D cI cJ cS q_t q_t_plan q_t_counter q_t_choices q_t_ringers q_t_readings q_t_sheets t_traced t_lastFault 3 y27 h28 _) (cwV 1 hts gX8_copy_X8_faulted rfl rfl rfl (by decide +kernel) ⟨(Nat.le_of_ble_eq_true rfl), (Nat.le_of_ble_eq_true rfl)⟩) (pre_V hK hP hD [0] rfl rfl rfl rfl) rfl rfl hl.1 rfl (lv_room (Nat.le_of_ble_eq_true rfl)) dX8_copy_102 ⟨Nat.zero_le _, Nat.zero_le _⟩) hP hD hS hA [0] [1, 2, 3, 4, 5, 6, 7, 8, 9] [9, 0, 1, 2, 3, 4, 5, 6, 7, 8] rfl rfl rfl (by decide) rfl rfl (fun H locs hP hD hS => ?_)
                  have hM := (Option.some.inj hM)
                  subst hM
                  exact rt_i hx hb hr hlocks hP hD hS dX8_copy_105
                · have hM := (o_if hM).2 c26
                  refine lv_aload hx hb dX8_copy_88 (lv_at hl 0 rfl) ?_
                  refine lv_iload hx hb dX8_copy_90 (lv_at hl 6 rfl) ?_
                  refine lv_iload hx hb dX8_copy_92 (lv_at hl 7 rfl) ?_
                  obtain ⟨y29, h30, hM⟩ := o_bd hM
                  refine af_i (ws2 := (w_Tq_copy cI cJ cS q_t q_t_plan q_t_counter q_t_choices q_t_ringers q_t_readings q_t_sheets q_t_sh0 q_t_sh0_cells q_t_sh1 q_t_sh1_cells q_t_sh2 q_t_sh2_cells q_t_sh3 q_t_sh3_cells t_traced t_lastFault t_sh_lane t_sh_size t_sh_cells)) (va_runV (As := [.int p_j, .int p_n]) (rest := []) ⟨hx, hb, hml, hown, hts⟩ (c_Sh_holds l D cI cJ cS q_t_sh3 q_t_sh3_cells (t_sh_lane 3) (t_sh_size 3) p_j p_n y29 h30 _) (cwV 2 hts gX8_copy_X6_holds rfl rfl rfl (by decide +kernel) ⟨(Nat.le_of_ble_eq_true rfl), (Nat.le_of_ble_eq_true rfl)⟩) (pre_V hK hP hD [8] rfl rfl rfl rfl) rfl rfl hl.1 rfl (lv_room (Nat.le_of_ble_eq_true rfl)) dX8_copy_94 ⟨Nat.zero_le _, Nat.zero_le _⟩) hP hD hS hA [8] [0, 1, 2, 3, 4, 5, 6, 7, 9] [0, 1, 2, 3, 4, 5, 6, 7, 9, 8] rfl rfl rfl (by decide) rfl rfl (fun H locs hP hD hS => ?_)
                  refine lv_if_ne (tgt := 106) hx hb dX8_copy_97 (by decide) (fun c31 => ?_) (fun c31 => ?_)
                  · have hM := (o_if hM).2 c31
                    refine lv_aload hx hb dX8_copy_106 (lv_at hl 1 rfl) ?_
                    refine va_getN (ci := 6) (v := .ref q_t_sh1_cells) (C := RX6) (T := TX6) (N := 3) (host := RX8) hx hb hts iX6 hown hK.1 hP 4 rfl rfl 0 (Nat.le_of_ble_eq_true rfl) (va_Nw.use rfl hK.2.2.2.2.2.2.2.2.2.2.2.2.2.2.2.2.2.2.1) (fun _ h9 => h9) rfl dX8_copy_108 ?_
                    refine lv_iload_n hx hb dX8_copy_111 rfl (lv_at hl 4 rfl) ?_
                    refine lv_aload hx hb dX8_copy_112 (lv_at hl 0 rfl) ?_
                    refine va_getN (ci := 6) (v := .ref q_t_sh3_cells) (C := RX6) (T := TX6) (N := 3) (host := RX8) hx hb hts iX6 hown hK.1 hP 8 rfl rfl 0 (Nat.le_of_ble_eq_true rfl) (va_Nw.use rfl hK.2.2.2.2.2.2.2.2.2.2.2.2.2.2.2.2.2.2.1) (fun _ h9 => h9) rfl dX8_copy_114 ?_
                    refine lv_iload hx hb dX8_copy_117 (lv_at hl 6 rfl) ?_
                    refine lv_iload hx hb dX8_copy_119 (lv_at hl 7 rfl) ?_
                    obtain ⟨h32, hM⟩ := o_gd hM
                    obtain ⟨h33, hM⟩ := o_gd hM
                    obtain ⟨h34, hM⟩ := o_gd hM
                    obtain ⟨h35, hM⟩ := o_gd hM
                    obtain ⟨h36, hM⟩ := o_gd hM
                    refine va_copyi hx hb (by rw [hml]; exact hl.1.symm) hown k1 k2 k3 k4 hK.1 hP hD hS 5 9 0 0 rfl rfl rfl rfl rfl h32 h33 h34 h35 h36 (fun _ _ => rfl) (Nat.le_of_ble_eq_true rfl) (Nat.le_of_ble_eq_true rfl) dX8_copy_121 (fun H locs hP hD hS => ?_)
                    have hP : va_P D vwCl (w_Tq_copy cI cJ cS q_t q_t_plan q_t_counter q_t_choices q_t_ringers q_t_readings q_t_sheets q_t_sh0 q_t_sh0_cells q_t_sh1 q_t_sh1_cells q_t_sh2 q_t_sh2_cells q_t_sh3 q_t_sh3_cells t_traced t_lastFault t_sh_lane t_sh_size (va_up t_sh_cells 3 (va_cpy (t_sh_cells 1) (t_sh_cells 3) p_i.toNatClampNeg p_j.toNatClampNeg p_n.toNatClampNeg))) H := hP
                    have hD : va_D A (w_Tq_copy cI cJ cS q_t q_t_plan q_t_counter q_t_choices q_t_ringers q_t_readings q_t_sheets q_t_sh0 q_t_sh0_cells q_t_sh1 q_t_sh1_cells q_t_sh2 q_t_sh2_cells q_t_sh3 q_t_sh3_cells t_traced t_lastFault t_sh_lane t_sh_size (va_up t_sh_cells 3 (va_cpy (t_sh_cells 1) (t_sh_cells 3) p_i.toNatClampNeg p_j.toNatClampNeg p_n.toNatClampNeg))) := hD
                    refine lv_aload_n hx hb dX8_copy_124 rfl (lv_at hl 2 rfl) ?_
                    refine lv_iload hx hb dX8_copy_125 (lv_at hl 7 rfl) ?_
                    obtain ⟨y37, h38, hM⟩ := o_bd hM
                    refine af_i (ws2 := (w_Tq_copy cI cJ cS q_t q_t_plan q_t_counter q_t_choices q_t_ringers q_t_readings q_t_sheets q_t_sh0 q_t_sh0_cells q_t_sh1 q_t_sh1_cells q_t_sh2 q_t_sh2_cells q_t_sh3 q_t_sh3_cells t_traced y37.2 t_sh_lane t_sh_size (va_up t_sh_cells 3 (va_cpy (t_sh_cells 1) (t_sh_cells 3) p_i.toNatClampNeg p_j.toNatClampNeg p_n.toNatClampNeg)))) (va_runV (As := [.int p_n]) (rest := []) ⟨hx, hb, hml, hown, hts⟩ (c_Tq_faultless l D cI cJ cS q_t q_t_plan q_t_counter q_t_choices q_t_ringers q_t_readings q_t_sheets t_traced t_lastFault p_n y37 h38 _) (cwV 1 hts gX8_copy_X8_faultless rfl rfl rfl (by decide +kernel) ⟨(Nat.le_of_ble_eq_true rfl), (Nat.le_of_ble_eq_true rfl)⟩) (pre_V hK hP hD [0] rfl rfl rfl rfl) rfl rfl hl.1 rfl (lv_room (Nat.le_of_ble_eq_true rfl)) dX8_copy_127 ⟨Nat.zero_le _, Nat.zero_le _⟩) hP hD hS hA [0] [1, 2, 3, 4, 5, 6, 7, 8, 9] [9, 0, 1, 2, 3, 4, 5, 6, 7, 8] rfl rfl rfl (by decide) rfl rfl (fun H locs hP hD hS => ?_)
                    have hM := (Option.some.inj hM)
                    subst hM
                    exact rt_i hx hb hr hlocks hP hD hS dX8_copy_130
                  · have hM := (o_if hM).1 c31
                    refine lv_aload_n hx hb dX8_copy_100 rfl (lv_at hl 2 rfl) ?_
                    refine lv_iconst (v := 3) hx hb dX8_copy_101 (by decide) ?_
                    obtain ⟨y39, h40, hM⟩ := o_bd hM
                    refine af_i (ws2 := (w_Tq_copy cI cJ cS q_t q_t_plan q_t_counter q_t_choices q_t_ringers q_t_readings q_t_sheets q_t_sh0 q_t_sh0_cells q_t_sh1 q_t_sh1_cells q_t_sh2 q_t_sh2_cells q_t_sh3 q_t_sh3_cells t_traced y39.2 t_sh_lane t_sh_size t_sh_cells)) (va_runV (As := [.int 3]) (rest := []) ⟨hx, hb, hml, hown, hts⟩ (c_Tq_faulted l D cI cJ cS q_t q_t_plan q_t_counter q_t_choices q_t_ringers q_t_readings q_t_sheets t_traced t_lastFault 3 y39 h40 _) (cwV 1 hts gX8_copy_X8_faulted rfl rfl rfl (by decide +kernel) ⟨(Nat.le_of_ble_eq_true rfl), (Nat.le_of_ble_eq_true rfl)⟩) (pre_V hK hP hD [0] rfl rfl rfl rfl) rfl rfl hl.1 rfl (lv_room (Nat.le_of_ble_eq_true rfl)) dX8_copy_102 ⟨Nat.zero_le _, Nat.zero_le _⟩) hP hD hS hA [0] [1, 2, 3, 4, 5, 6, 7, 8, 9] [9, 0, 1, 2, 3, 4, 5, 6, 7, 8] rfl rfl rfl (by decide) rfl rfl (fun H locs hP hD hS => ?_)
                    have hM := (Option.some.inj hM)
                    subst hM
                    exact rt_i hx hb hr hlocks hP hD hS dX8_copy_105
              · have hM := (o_if hM).2 c23
                refine lv_aload_n hx hb dX8_copy_71 rfl (lv_at hl 2 rfl) ?_
                refine lv_iconst (v := 2) hx hb dX8_copy_72 (by decide) ?_
                obtain ⟨y41, h42, hM⟩ := o_bd hM
                refine af_i (ws2 := (w_Tq_copy cI cJ cS q_t q_t_plan q_t_counter q_t_choices q_t_ringers q_t_readings q_t_sheets q_t_sh0 q_t_sh0_cells q_t_sh1 q_t_sh1_cells q_t_sh2 q_t_sh2_cells q_t_sh3 q_t_sh3_cells t_traced y41.2 t_sh_lane t_sh_size t_sh_cells)) (va_runV (As := [.int 2]) (rest := []) ⟨hx, hb, hml, hown, hts⟩ (c_Tq_faulted l D cI cJ cS q_t q_t_plan q_t_counter q_t_choices q_t_ringers q_t_readings q_t_sheets t_traced t_lastFault 2 y41 h42 _) (cwV 1 hts gX8_copy_X8_faulted rfl rfl rfl (by decide +kernel) ⟨(Nat.le_of_ble_eq_true rfl), (Nat.le_of_ble_eq_true rfl)⟩) (pre_V hK hP hD [0] rfl rfl rfl rfl) rfl rfl hl.1 rfl (lv_room (Nat.le_of_ble_eq_true rfl)) dX8_copy_73 ⟨Nat.zero_le _, Nat.zero_le _⟩) hP hD hS hA [0] [1, 2, 3, 4, 5, 6, 7, 8, 9] [9, 0, 1, 2, 3, 4, 5, 6, 7, 8] rfl rfl rfl (by decide) rfl rfl (fun H locs hP hD hS => ?_)
                have hM := (Option.some.inj hM)
                subst hM
                exact rt_i hx hb hr hlocks hP hD hS dX8_copy_76
            · have hM := (o_if hM).2 c20
              refine lv_aload_n hx hb dX8_copy_52 rfl (lv_at hl 2 rfl) ?_
              refine lv_iconst (v := 1) hx hb dX8_copy_53 (by decide) ?_
              obtain ⟨y43, h44, hM⟩ := o_bd hM
              refine af_i (ws2 := (w_Tq_copy cI cJ cS q_t q_t_plan q_t_counter q_t_choices q_t_ringers q_t_readings q_t_sheets q_t_sh0 q_t_sh0_cells q_t_sh1 q_t_sh1_cells q_t_sh2 q_t_sh2_cells q_t_sh3 q_t_sh3_cells t_traced y43.2 t_sh_lane t_sh_size t_sh_cells)) (va_runV (As := [.int 1]) (rest := []) ⟨hx, hb, hml, hown, hts⟩ (c_Tq_faulted l D cI cJ cS q_t q_t_plan q_t_counter q_t_choices q_t_ringers q_t_readings q_t_sheets t_traced t_lastFault 1 y43 h44 _) (cwV 1 hts gX8_copy_X8_faulted rfl rfl rfl (by decide +kernel) ⟨(Nat.le_of_ble_eq_true rfl), (Nat.le_of_ble_eq_true rfl)⟩) (pre_V hK hP hD [0] rfl rfl rfl rfl) rfl rfl hl.1 rfl (lv_room (Nat.le_of_ble_eq_true rfl)) dX8_copy_54 ⟨Nat.zero_le _, Nat.zero_le _⟩) hP hD hS hA [0] [1, 2, 3, 4, 5, 6, 7, 8, 9] [9, 0, 1, 2, 3, 4, 5, 6, 7, 8] rfl rfl rfl (by decide) rfl rfl (fun H locs hP hD hS => ?_)
              have hM := (Option.some.inj hM)
              subst hM
              exact rt_i hx hb hr hlocks hP hD hS dX8_copy_57
      · refine W.eq (g2 := F0 m 26 ls [.ref q_t_sh2]) rfl ?_
        refine lv_astore (lv' := [(6, .ref q_t_sh2), (0, .ref q_t), (1, .int p_k), (2, .int p_i), (3, .int p_other), (4, .int p_j), (5, .int p_n)]) hx hb dX8_copy_26 hl (Nat.le_of_ble_eq_true rfl) rfl (fun ls hl => ?_)
        refine lv_aload_n hx hb dX8_copy_28 rfl (lv_at hl 1 rfl) ?_
        refine va_get (ci := 7) (v := .ref q_t_sheets) (C := RX8) (T := TX8) (N := 8) hx hb hts iX8 hown hK.1 hP 0 rfl rfl 5 (Nat.le_of_ble_eq_true rfl) k0 (fun _ h9 => h9) rfl dX8_copy_29 ?_
        refine lv_iload_n hx hb dX8_copy_32 rfl (lv_at hl 4 rfl) ?_
        obtain ⟨h11, hM⟩ := o_ck hM
        refine va_aldq hx hb hK.1 hP 1 2 rfl rfl h11 dX8_copy_33 ?_
        obtain ⟨j12, ej12⟩ : ∃ y : Nat, y = p_other.toNatClampNeg := ⟨_, rfl⟩
        have hM := o_lt hM j12 ej12
        have hj12 : j12 < 4 := by rw [ej12]; exact ck_lt h11
        rw [← ej12]
        rcases (show j12 = 0 ∨ j12 = 1 ∨ j12 = 2 ∨ j12 = 3 by omega) with rfl | rfl | rfl | rfl
        · refine W.eq (g2 := F0 m 34 ls [.ref q_t_sh0]) rfl ?_
          refine lv_astore (lv' := [(7, .ref q_t_sh0), (6, .ref q_t_sh2), (0, .ref q_t), (1, .int p_k), (2, .int p_i), (3, .int p_other), (4, .int p_j), (5, .int p_n)]) hx hb dX8_copy_34 hl (Nat.le_of_ble_eq_true rfl) rfl (fun ls hl => ?_)
          refine lv_aload hx hb dX8_copy_36 (lv_at hl 1 rfl) ?_
          obtain ⟨y13, h14, hM⟩ := o_bd hM
          refine af_i (ws2 := (w_Tq_copy cI cJ cS q_t q_t_plan q_t_counter q_t_choices q_t_ringers q_t_readings q_t_sheets q_t_sh0 q_t_sh0_cells q_t_sh1 q_t_sh1_cells q_t_sh2 q_t_sh2_cells q_t_sh3 q_t_sh3_cells t_traced t_lastFault t_sh_lane t_sh_size t_sh_cells)) (va_runV (As := []) (rest := []) ⟨hx, hb, hml, hown, hts⟩ (c_Sh_hasNothing l D cI cJ cS q_t_sh2 q_t_sh2_cells (t_sh_lane 2) (t_sh_size 2) y13 h14 _) (cwV 0 hts gX8_copy_X6_hasNothing rfl rfl rfl (by decide +kernel) ⟨(Nat.le_of_ble_eq_true rfl), (Nat.le_of_ble_eq_true rfl)⟩) (pre_V hK hP hD [6] rfl rfl rfl rfl) rfl rfl hl.1 rfl (lv_room (Nat.le_of_ble_eq_true rfl)) dX8_copy_38 ⟨Nat.zero_le _, Nat.zero_le _⟩) hP hD hS hA [6] [0, 1, 2, 3, 4, 5, 7, 8, 9] [0, 1, 2, 3, 4, 5, 9, 6, 7, 8] rfl rfl rfl (by decide) rfl rfl (fun H locs hP hD hS => ?_)
          refine lv_if_ne (tgt := 52) hx hb dX8_copy_41 (by decide) (fun c15 => ?_) (fun c15 => ?_)
          · have hM := (o_if hM).2 c15
            refine lv_aload_n hx hb dX8_copy_52 rfl (lv_at hl 2 rfl) ?_
            refine lv_iconst (v := 1) hx hb dX8_copy_53 (by decide) ?_
            obtain ⟨y16, h17, hM⟩ := o_bd hM
            refine af_i (ws2 := (w_Tq_copy cI cJ cS q_t q_t_plan q_t_counter q_t_choices q_t_ringers q_t_readings q_t_sheets q_t_sh0 q_t_sh0_cells q_t_sh1 q_t_sh1_cells q_t_sh2 q_t_sh2_cells q_t_sh3 q_t_sh3_cells t_traced y16.2 t_sh_lane t_sh_size t_sh_cells)) (va_runV (As := [.int 1]) (rest := []) ⟨hx, hb, hml, hown, hts⟩ (c_Tq_faulted l D cI cJ cS q_t q_t_plan q_t_counter q_t_choices q_t_ringers q_t_readings q_t_sheets t_traced t_lastFault 1 y16 h17 _) (cwV 1 hts gX8_copy_X8_faulted rfl rfl rfl (by decide +kernel) ⟨(Nat.le_of_ble_eq_true rfl), (Nat.le_of_ble_eq_true rfl)⟩) (pre_V hK hP hD [0] rfl rfl rfl rfl) rfl rfl hl.1 rfl (lv_room (Nat.le_of_ble_eq_true rfl)) dX8_copy_54 ⟨Nat.zero_le _, Nat.zero_le _⟩) hP hD hS hA [0] [1, 2, 3, 4, 5, 6, 7, 8, 9] [9, 0, 1, 2, 3, 4, 5, 6, 7, 8] rfl rfl rfl (by decide) rfl rfl (fun H locs hP hD hS => ?_)
            have hM := (Option.some.inj hM)
            subst hM
            exact rt_i hx hb hr hlocks hP hD hS dX8_copy_57
          · have hM := (o_if hM).1 c15
            refine lv_aload hx hb dX8_copy_44 (lv_at hl 0 rfl) ?_
            obtain ⟨y18, h19, hM⟩ := o_bd hM
            refine af_i (ws2 := (w_Tq_copy cI cJ cS q_t q_t_plan q_t_counter q_t_choices q_t_ringers q_t_readings q_t_sheets q_t_sh0 q_t_sh0_cells q_t_sh1 q_t_sh1_cells q_t_sh2 q_t_sh2_cells q_t_sh3 q_t_sh3_cells t_traced t_lastFault t_sh_lane t_sh_size t_sh_cells)) (va_runV (As := []) (rest := []) ⟨hx, hb, hml, hown, hts⟩ (c_Sh_hasNothing l D cI cJ cS q_t_sh0 q_t_sh0_cells (t_sh_lane 0) (t_sh_size 0) y18 h19 _) (cwV 0 hts gX8_copy_X6_hasNothing rfl rfl rfl (by decide +kernel) ⟨(Nat.le_of_ble_eq_true rfl), (Nat.le_of_ble_eq_true rfl)⟩) (pre_V hK hP hD [2] rfl rfl rfl rfl) rfl rfl hl.1 rfl (lv_room (Nat.le_of_ble_eq_true rfl)) dX8_copy_46 ⟨Nat.zero_le _, Nat.zero_le _⟩) hP hD hS hA [2] [0, 1, 3, 4, 5, 6, 7, 8, 9] [0, 1, 9, 2, 3, 4, 5, 6, 7, 8] rfl rfl rfl (by decide) rfl rfl (fun H locs hP hD hS => ?_)
            refine lv_if_eq (tgt := 58) hx hb dX8_copy_49 (by decide) (fun c20 => ?_) (fun c20 => ?_)
            · have hM := (o_if hM).1 c20
              refine lv_aload hx hb dX8_copy_58 (lv_at hl 0 rfl) ?_
              refine lv_aload hx hb dX8_copy_60 (lv_at hl 1 rfl) ?_
              refine va_getN (ci := 6) (v := .int (t_sh_lane 2)) (C := RX6) (T := TX6) (N := 3) (host := RX8) hx hb hts iX6 hown hK.1 hP 6 rfl rfl 1 (Nat.le_of_ble_eq_true rfl) (va_Nw.use rfl hK.2.2.2.2.2.2.2.2.2.2.2.2.2.2.2.2.2.1) (fun _ h9 => h9) rfl dX8_copy_62 ?_
              obtain ⟨y21, h22, hM⟩ := o_bd hM
              refine af_i (ws2 := (w_Tq_copy cI cJ cS q_t q_t_plan q_t_counter q_t_choices q_t_ringers q_t_readings q_t_sheets q_t_sh0 q_t_sh0_cells q_t_sh1 q_t_sh1_cells q_t_sh2 q_t_sh2_cells q_t_sh3 q_t_sh3_cells t_traced t_lastFault t_sh_lane t_sh_size t_sh_cells)) (va_runV (As := [.int (t_sh_lane 2)]) (rest := []) ⟨hx, hb, hml, hown, hts⟩ (c_Sh_isOfAnother l D cI cJ cS q_t_sh0 q_t_sh0_cells (t_sh_lane 0) (t_sh_size 0) (t_sh_lane 2) y21 h22 _) (cwV 1 hts gX8_copy_X6_isOfAnother rfl rfl rfl (by decide +kernel) ⟨(Nat.le_of_ble_eq_true rfl), (Nat.le_of_ble_eq_true rfl)⟩) (pre_V hK hP hD [2] rfl rfl rfl rfl) rfl rfl hl.1 rfl (lv_room (Nat.le_of_ble_eq_true rfl)) dX8_copy_65 ⟨Nat.zero_le _, Nat.zero_le _⟩) hP hD hS hA [2] [0, 1, 3, 4, 5, 6, 7, 8, 9] [0, 1, 9, 2, 3, 4, 5, 6, 7, 8] rfl rfl rfl (by decide) rfl rfl (fun H locs hP hD hS => ?_)
              refine lv_if_eq (tgt := 77) hx hb dX8_copy_68 (by decide) (fun c23 => ?_) (fun c23 => ?_)
              · have hM := (o_if hM).1 c23
                refine lv_aload hx hb dX8_copy_77 (lv_at hl 1 rfl) ?_
                refine lv_iload_n hx hb dX8_copy_79 rfl (lv_at hl 4 rfl) ?_
                refine lv_iload hx hb dX8_copy_80 (lv_at hl 7 rfl) ?_
                obtain ⟨y24, h25, hM⟩ := o_bd hM
                refine af_i (ws2 := (w_Tq_copy cI cJ cS q_t q_t_plan q_t_counter q_t_choices q_t_ringers q_t_readings q_t_sheets q_t_sh0 q_t_sh0_cells q_t_sh1 q_t_sh1_cells q_t_sh2 q_t_sh2_cells q_t_sh3 q_t_sh3_cells t_traced t_lastFault t_sh_lane t_sh_size t_sh_cells)) (va_runV (As := [.int p_i, .int p_n]) (rest := []) ⟨hx, hb, hml, hown, hts⟩ (c_Sh_holds l D cI cJ cS q_t_sh2 q_t_sh2_cells (t_sh_lane 2) (t_sh_size 2) p_i p_n y24 h25 _) (cwV 2 hts gX8_copy_X6_holds rfl rfl rfl (by decide +kernel) ⟨(Nat.le_of_ble_eq_true rfl), (Nat.le_of_ble_eq_true rfl)⟩) (pre_V hK hP hD [6] rfl rfl rfl rfl) rfl rfl hl.1 rfl (lv_room (Nat.le_of_ble_eq_true rfl)) dX8_copy_82 ⟨Nat.zero_le _, Nat.zero_le _⟩) hP hD hS hA [6] [0, 1, 2, 3, 4, 5, 7, 8, 9] [0, 1, 2, 3, 4, 5, 9, 6, 7, 8] rfl rfl rfl (by decide) rfl rfl (fun H locs hP hD hS => ?_)
                refine lv_if_eq (tgt := 100) hx hb dX8_copy_85 (by decide) (fun c26 => ?_) (fun c26 => ?_)
                · have hM := (o_if hM).1 c26
                  refine lv_aload_n hx hb dX8_copy_100 rfl (lv_at hl 2 rfl) ?_
                  refine lv_iconst (v := 3) hx hb dX8_copy_101 (by decide) ?_
                  obtain ⟨y27, h28, hM⟩ := o_bd hM
                  refine af_i (ws2 := (w_Tq_copy cI cJ cS q_t q_t_plan q_t_counter q_t_choices q_t_ringers q_t_readings q_t_sheets q_t_sh0 q_t_sh0_cells q_t_sh1 q_t_sh1_cells q_t_sh2 q_t_sh2_cells q_t_sh3 q_t_sh3_cells t_traced y27.2 t_sh_lane t_sh_size t_sh_cells)) (va_runV (As := [.int 3]) (rest := []) ⟨hx, hb, hml, hown, hts⟩ (c_Tq_faulted l D cI cJ cS q_t q_t_plan q_t_counter q_t_choices q_t_ringers q_t_readings q_t_sheets t_traced t_lastFault 3 y27 h28 _) (cwV 1 hts gX8_copy_X8_faulted rfl rfl rfl (by decide +kernel) ⟨(Nat.le_of_ble_eq_true rfl), (Nat.le_of_ble_eq_true rfl)⟩) (pre_V hK hP hD [0] rfl rfl rfl rfl) rfl rfl hl.1 rfl (lv_room (Nat.le_of_ble_eq_true rfl)) dX8_copy_102 ⟨Nat.zero_le _, Nat.zero_le _⟩) hP hD hS hA [0] [1, 2, 3, 4, 5, 6, 7, 8, 9] [9, 0, 1, 2, 3, 4, 5, 6, 7, 8] rfl rfl rfl (by decide) rfl rfl (fun H locs hP hD hS => ?_)
                  have hM := (Option.some.inj hM)
                  subst hM
                  exact rt_i hx hb hr hlocks hP hD hS dX8_copy_105
                · have hM := (o_if hM).2 c26
                  refine lv_aload hx hb dX8_copy_88 (lv_at hl 0 rfl) ?_
                  refine lv_iload hx hb dX8_copy_90 (lv_at hl 6 rfl) ?_
                  refine lv_iload hx hb dX8_copy_92 (lv_at hl 7 rfl) ?_
                  obtain ⟨y29, h30, hM⟩ := o_bd hM
                  refine af_i (ws2 := (w_Tq_copy cI cJ cS q_t q_t_plan q_t_counter q_t_choices q_t_ringers q_t_readings q_t_sheets q_t_sh0 q_t_sh0_cells q_t_sh1 q_t_sh1_cells q_t_sh2 q_t_sh2_cells q_t_sh3 q_t_sh3_cells t_traced t_lastFault t_sh_lane t_sh_size t_sh_cells)) (va_runV (As := [.int p_j, .int p_n]) (rest := []) ⟨hx, hb, hml, hown, hts⟩ (c_Sh_holds l D cI cJ cS q_t_sh0 q_t_sh0_cells (t_sh_lane 0) (t_sh_size 0) p_j p_n y29 h30 _) (cwV 2 hts gX8_copy_X6_holds rfl rfl rfl (by decide +kernel) ⟨(Nat.le_of_ble_eq_true rfl), (Nat.le_of_ble_eq_true rfl)⟩) (pre_V hK hP hD [2] rfl rfl rfl rfl) rfl rfl hl.1 rfl (lv_room (Nat.le_of_ble_eq_true rfl)) dX8_copy_94 ⟨Nat.zero_le _, Nat.zero_le _⟩) hP hD hS hA [2] [0, 1, 3, 4, 5, 6, 7, 8, 9] [0, 1, 9, 2, 3, 4, 5, 6, 7, 8] rfl rfl rfl (by decide) rfl rfl (fun H locs hP hD hS => ?_)
                  refine lv_if_ne (tgt := 106) hx hb dX8_copy_97 (by decide) (fun c31 => ?_) (fun c31 => ?_)
                  · have hM := (o_if hM).2 c31
                    refine lv_aload hx hb dX8_copy_106 (lv_at hl 1 rfl) ?_
                    refine va_getN (ci := 6) (v := .ref q_t_sh2_cells) (C := RX6) (T := TX6) (N := 3) (host := RX8) hx hb hts iX6 hown hK.1 hP 6 rfl rfl 0 (Nat.le_of_ble_eq_true rfl) (va_Nw.use rfl hK.2.2.2.2.2.2.2.2.2.2.2.2.2.2.2.2.2.2.1) (fun _ h9 => h9) rfl dX8_copy_108 ?_
                    refine lv_iload_n hx hb dX8_copy_111 rfl (lv_at hl 4 rfl) ?_
                    refine lv_aload hx hb dX8_copy_112 (lv_at hl 0 rfl) ?_
                    refine va_getN (ci := 6) (v := .ref q_t_sh0_cells) (C := RX6) (T := TX6) (N := 3) (host := RX8) hx hb hts iX6 hown hK.1 hP 2 rfl rfl 0 (Nat.le_of_ble_eq_true rfl) (va_Nw.use rfl hK.2.2.2.2.2.2.2.2.2.2.2.2.2.2.2.2.2.2.1) (fun _ h9 => h9) rfl dX8_copy_114 ?_
                    refine lv_iload hx hb dX8_copy_117 (lv_at hl 6 rfl) ?_
                    refine lv_iload hx hb dX8_copy_119 (lv_at hl 7 rfl) ?_
                    obtain ⟨h32, hM⟩ := o_gd hM
                    obtain ⟨h33, hM⟩ := o_gd hM
                    obtain ⟨h34, hM⟩ := o_gd hM
                    obtain ⟨h35, hM⟩ := o_gd hM
                    obtain ⟨h36, hM⟩ := o_gd hM
                    refine va_copyi hx hb (by rw [hml]; exact hl.1.symm) hown k1 k2 k3 k4 hK.1 hP hD hS 7 3 0 0 rfl rfl rfl rfl rfl h32 h33 h34 h35 h36 (fun _ _ => rfl) (Nat.le_of_ble_eq_true rfl) (Nat.le_of_ble_eq_true rfl) dX8_copy_121 (fun H locs hP hD hS => ?_)
                    have hP : va_P D vwCl (w_Tq_copy cI cJ cS q_t q_t_plan q_t_counter q_t_choices q_t_ringers q_t_readings q_t_sheets q_t_sh0 q_t_sh0_cells q_t_sh1 q_t_sh1_cells q_t_sh2 q_t_sh2_cells q_t_sh3 q_t_sh3_cells t_traced t_lastFault t_sh_lane t_sh_size (va_up t_sh_cells 0 (va_cpy (t_sh_cells 2) (t_sh_cells 0) p_i.toNatClampNeg p_j.toNatClampNeg p_n.toNatClampNeg))) H := hP
                    have hD : va_D A (w_Tq_copy cI cJ cS q_t q_t_plan q_t_counter q_t_choices q_t_ringers q_t_readings q_t_sheets q_t_sh0 q_t_sh0_cells q_t_sh1 q_t_sh1_cells q_t_sh2 q_t_sh2_cells q_t_sh3 q_t_sh3_cells t_traced t_lastFault t_sh_lane t_sh_size (va_up t_sh_cells 0 (va_cpy (t_sh_cells 2) (t_sh_cells 0) p_i.toNatClampNeg p_j.toNatClampNeg p_n.toNatClampNeg))) := hD
                    refine lv_aload_n hx hb dX8_copy_124 rfl (lv_at hl 2 rfl) ?_
                    refine lv_iload hx hb dX8_copy_125 (lv_at hl 7 rfl) ?_
                    obtain ⟨y37, h38, hM⟩ := o_bd hM
                    refine af_i (ws2 := (w_Tq_copy cI cJ cS q_t q_t_plan q_t_counter q_t_choices q_t_ringers q_t_readings q_t_sheets q_t_sh0 q_t_sh0_cells q_t_sh1 q_t_sh1_cells q_t_sh2 q_t_sh2_cells q_t_sh3 q_t_sh3_cells t_traced y37.2 t_sh_lane t_sh_size (va_up t_sh_cells 0 (va_cpy (t_sh_cells 2) (t_sh_cells 0) p_i.toNatClampNeg p_j.toNatClampNeg p_n.toNatClampNeg)))) (va_runV (As := [.int p_n]) (rest := []) ⟨hx, hb, hml, hown, hts⟩ (c_Tq_faultless l D cI cJ cS q_t q_t_plan q_t_counter q_t_choices q_t_ringers q_t_readings q_t_sheets t_traced t_lastFault p_n y37 h38 _) (cwV 1 hts gX8_copy_X8_faultless rfl rfl rfl (by decide +kernel) ⟨(Nat.le_of_ble_eq_true rfl), (Nat.le_of_ble_eq_true rfl)⟩) (pre_V hK hP hD [0] rfl rfl rfl rfl) rfl rfl hl.1 rfl (lv_room (Nat.le_of_ble_eq_true rfl)) dX8_copy_127 ⟨Nat.zero_le _, Nat.zero_le _⟩) hP hD hS hA [0] [1, 2, 3, 4, 5, 6, 7, 8, 9] [9, 0, 1, 2, 3, 4, 5, 6, 7, 8] rfl rfl rfl (by decide) rfl rfl (fun H locs hP hD hS => ?_)
                    have hM := (Option.some.inj hM)
                    subst hM
                    exact rt_i hx hb hr hlocks hP hD hS dX8_copy_130
                  · have hM := (o_if hM).1 c31
                    refine lv_aload_n hx hb dX8_copy_100 rfl (lv_at hl 2 rfl) ?_
                    refine lv_iconst (v := 3) hx hb dX8_copy_101 (by decide) ?_
                    obtain ⟨y39, h40, hM⟩ := o_bd hM
                    refine af_i (ws2 := (w_Tq_copy cI cJ cS q_t q_t_plan q_t_counter q_t_choices q_t_ringers q_t_readings q_t_sheets q_t_sh0 q_t_sh0_cells q_t_sh1 q_t_sh1_cells q_t_sh2 q_t_sh2_cells q_t_sh3 q_t_sh3_cells t_traced y39.2 t_sh_lane t_sh_size t_sh_cells)) (va_runV (As := [.int 3]) (rest := []) ⟨hx, hb, hml, hown, hts⟩ (c_Tq_faulted l D cI cJ cS q_t q_t_plan q_t_counter q_t_choices q_t_ringers q_t_readings q_t_sheets t_traced t_lastFault 3 y39 h40 _) (cwV 1 hts gX8_copy_X8_faulted rfl rfl rfl (by decide +kernel) ⟨(Nat.le_of_ble_eq_true rfl), (Nat.le_of_ble_eq_true rfl)⟩) (pre_V hK hP hD [0] rfl rfl rfl rfl) rfl rfl hl.1 rfl (lv_room (Nat.le_of_ble_eq_true rfl)) dX8_copy_102 ⟨Nat.zero_le _, Nat.zero_le _⟩) hP hD hS hA [0] [1, 2, 3, 4, 5, 6, 7, 8, 9] [9, 0, 1, 2, 3, 4, 5, 6, 7, 8] rfl rfl rfl (by decide) rfl rfl (fun H locs hP hD hS => ?_)
                    have hM := (Option.some.inj hM)
                    subst hM
                    exact rt_i hx hb hr hlocks hP hD hS dX8_copy_105
              · have hM := (o_if hM).2 c23
                refine lv_aload_n hx hb dX8_copy_71 rfl (lv_at hl 2 rfl) ?_
                refine lv_iconst (v := 2) hx hb dX8_copy_72 (by decide) ?_
                obtain ⟨y41, h42, hM⟩ := o_bd hM
                refine af_i (ws2 := (w_Tq_copy cI cJ cS q_t q_t_plan q_t_counter q_t_choices q_t_ringers q_t_readings q_t_sheets q_t_sh0 q_t_sh0_cells q_t_sh1 q_t_sh1_cells q_t_sh2 q_t_sh2_cells q_t_sh3 q_t_sh3_cells t_traced y41.2 t_sh_lane t_sh_size t_sh_cells)) (va_runV (As := [.int 2]) (rest := []) ⟨hx, hb, hml, hown, hts⟩ (c_Tq_faulted l D cI cJ cS q_t q_t_plan q_t_counter q_t_choices q_t_ringers q_t_readings q_t_sheets t_traced t_lastFault 2 y41 h42 _) (cwV 1 hts gX8_copy_X8_faulted rfl rfl rfl (by decide +kernel) ⟨(Nat.le_of_ble_eq_true rfl), (Nat.le_of_ble_eq_true rfl)⟩) (pre_V hK hP hD [0] rfl rfl rfl rfl) rfl rfl hl.1 rfl (lv_room (Nat.le_of_ble_eq_true rfl)) dX8_copy_73 ⟨Nat.zero_le _, Nat.zero_le _⟩) hP hD hS hA [0] [1, 2, 3, 4, 5, 6, 7, 8, 9] [9, 0, 1, 2, 3, 4, 5, 6, 7, 8] rfl rfl rfl (by decide) rfl rfl (fun H locs hP hD hS => ?_)
                have hM := (Option.some.inj hM)
                subst hM
                exact rt_i hx hb hr hlocks hP hD hS dX8_copy_76
            · have hM := (o_if hM).2 c20
              refine lv_aload_n hx hb dX8_copy_52 rfl (lv_at hl 2 rfl) ?_
              refine lv_iconst (v := 1) hx hb dX8_copy_53 (by decide) ?_
              obtain ⟨y43, h44, hM⟩ := o_bd hM
              refine af_i (ws2 := (w_Tq_copy cI cJ cS q_t q_t_plan q_t_counter q_t_choices q_t_ringers q_t_readings q_t_sheets q_t_sh0 q_t_sh0_cells q_t_sh1 q_t_sh1_cells q_t_sh2 q_t_sh2_cells q_t_sh3 q_t_sh3_cells t_traced y43.2 t_sh_lane t_sh_size t_sh_cells)) (va_runV (As := [.int 1]) (rest := []) ⟨hx, hb, hml, hown, hts⟩ (c_Tq_faulted l D cI cJ cS q_t q_t_plan q_t_counter q_t_choices q_t_ringers q_t_readings q_t_sheets t_traced t_lastFault 1 y43 h44 _) (cwV 1 hts gX8_copy_X8_faulted rfl rfl rfl (by decide +kernel) ⟨(Nat.le_of_ble_eq_true rfl), (Nat.le_of_ble_eq_true rfl)⟩) (pre_V hK hP hD [0] rfl rfl rfl rfl) rfl rfl hl.1 rfl (lv_room (Nat.le_of_ble_eq_true rfl)) dX8_copy_54 ⟨Nat.zero_le _, Nat.zero_le _⟩) hP hD hS hA [0] [1, 2, 3, 4, 5, 6, 7, 8, 9] [9, 0, 1, 2, 3, 4, 5, 6, 7, 8] rfl rfl rfl (by decide) rfl rfl (fun H locs hP hD hS => ?_)
              have hM := (Option.some.inj hM)
              subst hM
              exact rt_i hx hb hr hlocks hP hD hS dX8_copy_57
        · refine W.eq (g2 := F0 m 34 ls [.ref q_t_sh1]) rfl ?_
          refine lv_astore (lv' := [(7, .ref q_t_sh1), (6, .ref q_t_sh2), (0, .ref q_t), (1, .int p_k), (2, .int p_i), (3, .int p_other), (4, .int p_j), (5, .int p_n)]) hx hb dX8_copy_34 hl (Nat.le_of_ble_eq_true rfl) rfl (fun ls hl => ?_)
          refine lv_aload hx hb dX8_copy_36 (lv_at hl 1 rfl) ?_
          obtain ⟨y13, h14, hM⟩ := o_bd hM
          refine af_i (ws2 := (w_Tq_copy cI cJ cS q_t q_t_plan q_t_counter q_t_choices q_t_ringers q_t_readings q_t_sheets q_t_sh0 q_t_sh0_cells q_t_sh1 q_t_sh1_cells q_t_sh2 q_t_sh2_cells q_t_sh3 q_t_sh3_cells t_traced t_lastFault t_sh_lane t_sh_size t_sh_cells)) (va_runV (As := []) (rest := []) ⟨hx, hb, hml, hown, hts⟩ (c_Sh_hasNothing l D cI cJ cS q_t_sh2 q_t_sh2_cells (t_sh_lane 2) (t_sh_size 2) y13 h14 _) (cwV 0 hts gX8_copy_X6_hasNothing rfl rfl rfl (by decide +kernel) ⟨(Nat.le_of_ble_eq_true rfl), (Nat.le_of_ble_eq_true rfl)⟩) (pre_V hK hP hD [6] rfl rfl rfl rfl) rfl rfl hl.1 rfl (lv_room (Nat.le_of_ble_eq_true rfl)) dX8_copy_38 ⟨Nat.zero_le _, Nat.zero_le _⟩) hP hD hS hA [6] [0, 1, 2, 3, 4, 5, 7, 8, 9] [0, 1, 2, 3, 4, 5, 9, 6, 7, 8] rfl rfl rfl (by decide) rfl rfl (fun H locs hP hD hS => ?_)
          refine lv_if_ne (tgt := 52) hx hb dX8_copy_41 (by decide) (fun c15 => ?_) (fun c15 => ?_)
          · have hM := (o_if hM).2 c15
            refine lv_aload_n hx hb dX8_copy_52 rfl (lv_at hl 2 rfl) ?_
            refine lv_iconst (v := 1) hx hb dX8_copy_53 (by decide) ?_
            obtain ⟨y16, h17, hM⟩ := o_bd hM
            refine af_i (ws2 := (w_Tq_copy cI cJ cS q_t q_t_plan q_t_counter q_t_choices q_t_ringers q_t_readings q_t_sheets q_t_sh0 q_t_sh0_cells q_t_sh1 q_t_sh1_cells q_t_sh2 q_t_sh2_cells q_t_sh3 q_t_sh3_cells t_traced y16.2 t_sh_lane t_sh_size t_sh_cells)) (va_runV (As := [.int 1]) (rest := []) ⟨hx, hb, hml, hown, hts⟩ (c_Tq_faulted l D cI cJ cS q_t q_t_plan q_t_counter q_t_choices q_t_ringers q_t_readings q_t_sheets t_traced t_lastFault 1 y16 h17 _) (cwV 1 hts gX8_copy_X8_faulted rfl rfl rfl (by decide +kernel) ⟨(Nat.le_of_ble_eq_true rfl), (Nat.le_of_ble_eq_true rfl)⟩) (pre_V hK hP hD [0] rfl rfl rfl rfl) rfl rfl hl.1 rfl (lv_room (Nat.le_of_ble_eq_true rfl)) dX8_copy_54 ⟨Nat.zero_le _, Nat.zero_le _⟩) hP hD hS hA [0] [1, 2, 3, 4, 5, 6, 7, 8, 9] [9, 0, 1, 2, 3, 4, 5, 6, 7, 8] rfl rfl rfl (by decide) rfl rfl (fun H locs hP hD hS => ?_)
            have hM := (Option.some.inj hM)
            subst hM
            exact rt_i hx hb hr hlocks hP hD hS dX8_copy_57
          · have hM := (o_if hM).1 c15
            refine lv_aload hx hb dX8_copy_44 (lv_at hl 0 rfl) ?_
            obtain ⟨y18, h19, hM⟩ := o_bd hM
            refine af_i (ws2 := (w_Tq_copy cI cJ cS q_t q_t_plan q_t_counter q_t_choices q_t_ringers q_t_readings q_t_sheets q_t_sh0 q_t_sh0_cells q_t_sh1 q_t_sh1_cells q_t_sh2 q_t_sh2_cells q_t_sh3 q_t_sh3_cells t_traced t_lastFault t_sh_lane t_sh_size t_sh_cells)) (va_runV (As := []) (rest := []) ⟨hx, hb, hml, hown, hts⟩ (c_Sh_hasNothing l D cI cJ cS q_t_sh1 q_t_sh1_cells (t_sh_lane 1) (t_sh_size 1) y18 h19 _) (cwV 0 hts gX8_copy_X6_hasNothing rfl rfl rfl (by decide +kernel) ⟨(Nat.le_of_ble_eq_true rfl), (Nat.le_of_ble_eq_true rfl)⟩) (pre_V hK hP hD [4] rfl rfl rfl rfl) rfl rfl hl.1 rfl (lv_room (Nat.le_of_ble_eq_true rfl)) dX8_copy_46 ⟨Nat.zero_le _, Nat.zero_le _⟩) hP hD hS hA [4] [0, 1, 2, 3, 5, 6, 7, 8, 9] [0, 1, 2, 3, 9, 4, 5, 6, 7, 8] rfl rfl rfl (by decide) rfl rfl (fun H locs hP hD hS => ?_)
            refine lv_if_eq (tgt := 58) hx hb dX8_copy_49 (by decide) (fun c20 => ?_) (fun c20 => ?_)
            · have hM := (o_if hM).1 c20
              refine lv_aload hx hb dX8_copy_58 (lv_at hl 0 rfl) ?_
              refine lv_aload hx hb dX8_copy_60 (lv_at hl 1 rfl) ?_
              refine va_getN (ci := 6) (v := .int (t_sh_lane 2)) (C := RX6) (T := TX6) (N := 3) (host := RX8) hx hb hts iX6 hown hK.1 hP 6 rfl rfl 1 (Nat.le_of_ble_eq_true rfl) (va_Nw.use rfl hK.2.2.2.2.2.2.2.2.2.2.2.2.2.2.2.2.2.1) (fun _ h9 => h9) rfl dX8_copy_62 ?_
              obtain ⟨y21, h22, hM⟩ := o_bd hM
              refine af_i (ws2 := (w_Tq_copy cI cJ cS q_t q_t_plan q_t_counter q_t_choices q_t_ringers q_t_readings q_t_sheets q_t_sh0 q_t_sh0_cells q_t_sh1 q_t_sh1_cells q_t_sh2 q_t_sh2_cells q_t_sh3 q_t_sh3_cells t_traced t_lastFault t_sh_lane t_sh_size t_sh_cells)) (va_runV (As := [.int (t_sh_lane 2)]) (rest := []) ⟨hx, hb, hml, hown, hts⟩ (c_Sh_isOfAnother l D cI cJ cS q_t_sh1 q_t_sh1_cells (t_sh_lane 1) (t_sh_size 1) (t_sh_lane 2) y21 h22 _) (cwV 1 hts gX8_copy_X6_isOfAnother rfl rfl rfl (by decide +kernel) ⟨(Nat.le_of_ble_eq_true rfl), (Nat.le_of_ble_eq_true rfl)⟩) (pre_V hK hP hD [4] rfl rfl rfl rfl) rfl rfl hl.1 rfl (lv_room (Nat.le_of_ble_eq_true rfl)) dX8_copy_65 ⟨Nat.zero_le _, Nat.zero_le _⟩) hP hD hS hA [4] [0, 1, 2, 3, 5, 6, 7, 8, 9] [0, 1, 2, 3, 9, 4, 5, 6, 7, 8] rfl rfl rfl (by decide) rfl rfl (fun H locs hP hD hS => ?_)
              refine lv_if_eq (tgt := 77) hx hb dX8_copy_68 (by decide) (fun c23 => ?_) (fun c23 => ?_)
              · have hM := (o_if hM).1 c23
                refine lv_aload hx hb dX8_copy_77 (lv_at hl 1 rfl) ?_
                refine lv_iload_n hx hb dX8_copy_79 rfl (lv_at hl 4 rfl) ?_
                refine lv_iload hx hb dX8_copy_80 (lv_at hl 7 rfl) ?_
                obtain ⟨y24, h25, hM⟩ := o_bd hM
                refine af_i (ws2 := (w_Tq_copy cI cJ cS q_t q_t_plan q_t_counter q_t_choices q_t_ringers q_t_readings q_t_sheets q_t_sh0 q_t_sh0_cells q_t_sh1 q_t_sh1_cells q_t_sh2 q_t_sh2_cells q_t_sh3 q_t_sh3_cells t_traced t_lastFault t_sh_lane t_sh_size t_sh_cells)) (va_runV (As := [.int p_i, .int p_n]) (rest := []) ⟨hx, hb, hml, hown, hts⟩ (c_Sh_holds l D cI cJ cS q_t_sh2 q_t_sh2_cells (t_sh_lane 2) (t_sh_size 2) p_i p_n y24 h25 _) (cwV 2 hts gX8_copy_X6_holds rfl rfl rfl (by decide +kernel) ⟨(Nat.le_of_ble_eq_true rfl), (Nat.le_of_ble_eq_true rfl)⟩) (pre_V hK hP hD [6] rfl rfl rfl rfl) rfl rfl hl.1 rfl (lv_room (Nat.le_of_ble_eq_true rfl)) dX8_copy_82 ⟨Nat.zero_le _, Nat.zero_le _⟩) hP hD hS hA [6] [0, 1, 2, 3, 4, 5, 7, 8, 9] [0, 1, 2, 3, 4, 5, 9, 6, 7, 8] rfl rfl rfl (by decide) rfl rfl (fun H locs hP hD hS => ?_)
                refine lv_if_eq (tgt := 100) hx hb dX8_copy_85 (by decide) (fun c26 => ?_) (fun c26 => ?_)
                · have hM := (o_if hM).1 c26
                  refine lv_aload_n hx hb dX8_copy_100 rfl (lv_at hl 2 rfl) ?_
                  refine lv_iconst (v := 3) hx hb dX8_copy_101 (by decide) ?_
                  obtain ⟨y27, h28, hM⟩ := o_bd hM
                  refine af_i (ws2 := (w_Tq_copy cI cJ cS q_t q_t_plan q_t_counter q_t_choices q_t_ringers q_t_readings q_t_sheets q_t_sh0 q_t_sh0_cells q_t_sh1 q_t_sh1_cells q_t_sh2 q_t_sh2_cells q_t_sh3 q_t_sh3_cells t_traced y27.2 t_sh_lane t_sh_size t_sh_cells)) (va_runV (As := [.int 3]) (rest := []) ⟨hx, hb, hml, hown, hts⟩ (c_Tq_faulted l D cI cJ cS q_t q_t_plan q_t_counter q_t_choices q_t_ringers q_t_readings q_t_sheets t_traced t_lastFault 3 y27 h28 _) (cwV 1 hts gX8_copy_X8_faulted rfl rfl rfl (by decide +kernel) ⟨(Nat.le_of_ble_eq_true rfl), (Nat.le_of_ble_eq_true rfl)⟩) (pre_V hK hP hD [0] rfl rfl rfl rfl) rfl rfl hl.1 rfl (lv_room (Nat.le_of_ble_eq_true rfl)) dX8_copy_102 ⟨Nat.zero_le _, Nat.zero_le _⟩) hP hD hS hA [0] [1, 2, 3, 4, 5, 6, 7, 8, 9] [9, 0, 1, 2, 3, 4, 5, 6, 7, 8] rfl rfl rfl (by decide) rfl rfl (fun H locs hP hD hS => ?_)
                  have hM := (Option.some.inj hM)
                  subst hM
                  exact rt_i hx hb hr hlocks hP hD hS dX8_copy_105
                · have hM := (o_if hM).2 c26
                  refine lv_aload hx hb dX8_copy_88 (lv_at hl 0 rfl) ?_
                  refine lv_iload hx hb dX8_copy_90 (lv_at hl 6 rfl) ?_
                  refine lv_iload hx hb dX8_copy_92 (lv_at hl 7 rfl) ?_
                  obtain ⟨y29, h30, hM⟩ := o_bd hM
                  refine af_i (ws2 := (w_Tq_copy cI cJ cS q_t q_t_plan q_t_counter q_t_choices q_t_ringers q_t_readings q_t_sheets q_t_sh0 q_t_sh0_cells q_t_sh1 q_t_sh1_cells q_t_sh2 q_t_sh2_cells q_t_sh3 q_t_sh3_cells t_traced t_lastFault t_sh_lane t_sh_size t_sh_cells)) (va_runV (As := [.int p_j, .int p_n]) (rest := []) ⟨hx, hb, hml, hown, hts⟩ (c_Sh_holds l D cI cJ cS q_t_sh1 q_t_sh1_cells (t_sh_lane 1) (t_sh_size 1) p_j p_n y29 h30 _) (cwV 2 hts gX8_copy_X6_holds rfl rfl rfl (by decide +kernel) ⟨(Nat.le_of_ble_eq_true rfl), (Nat.le_of_ble_eq_true rfl)⟩) (pre_V hK hP hD [4] rfl rfl rfl rfl) rfl rfl hl.1 rfl (lv_room (Nat.le_of_ble_eq_true rfl)) dX8_copy_94 ⟨Nat.zero_le _, Nat.zero_le _⟩) hP hD hS hA [4] [0, 1, 2, 3, 5, 6, 7, 8, 9] [0, 1, 2, 3, 9, 4, 5, 6, 7, 8] rfl rfl rfl (by decide) rfl rfl (fun H locs hP hD hS => ?_)
                  refine lv_if_ne (tgt := 106) hx hb dX8_copy_97 (by decide) (fun c31 => ?_) (fun c31 => ?_)
                  · have hM := (o_if hM).2 c31
                    refine lv_aload hx hb dX8_copy_106 (lv_at hl 1 rfl) ?_
                    refine va_getN (ci := 6) (v := .ref q_t_sh2_cells) (C := RX6) (T := TX6) (N := 3) (host := RX8) hx hb hts iX6 hown hK.1 hP 6 rfl rfl 0 (Nat.le_of_ble_eq_true rfl) (va_Nw.use rfl hK.2.2.2.2.2.2.2.2.2.2.2.2.2.2.2.2.2.2.1) (fun _ h9 => h9) rfl dX8_copy_108 ?_
                    refine lv_iload_n hx hb dX8_copy_111 rfl (lv_at hl 4 rfl) ?_
                    refine lv_aload hx hb dX8_copy_112 (lv_at hl 0 rfl) ?_
                    refine va_getN (ci := 6) (v := .ref q_t_sh1_cells) (C := RX6) (T := TX6) (N := 3) (host := RX8) hx hb hts iX6 hown hK.1 hP 4 rfl rfl 0 (Nat.le_of_ble_eq_true rfl) (va_Nw.use rfl hK.2.2.2.2.2.2.2.2.2.2.2.2.2.2.2.2.2.2.1) (fun _ h9 => h9) rfl dX8_copy_114 ?_
                    refine lv_iload hx hb dX8_copy_117 (lv_at hl 6 rfl) ?_
                    refine lv_iload hx hb dX8_copy_119 (lv_at hl 7 rfl) ?_
                    obtain ⟨h32, hM⟩ := o_gd hM
                    obtain ⟨h33, hM⟩ := o_gd hM
                    obtain ⟨h34, hM⟩ := o_gd hM
                    obtain ⟨h35, hM⟩ := o_gd hM
                    obtain ⟨h36, hM⟩ := o_gd hM
                    refine va_copyi hx hb (by rw [hml]; exact hl.1.symm) hown k1 k2 k3 k4 hK.1 hP hD hS 7 5 0 0 rfl rfl rfl rfl rfl h32 h33 h34 h35 h36 (fun _ _ => rfl) (Nat.le_of_ble_eq_true rfl) (Nat.le_of_ble_eq_true rfl) dX8_copy_121 (fun H locs hP hD hS => ?_)
                    have hP : va_P D vwCl (w_Tq_copy cI cJ cS q_t q_t_plan q_t_counter q_t_choices q_t_ringers q_t_readings q_t_sheets q_t_sh0 q_t_sh0_cells q_t_sh1 q_t_sh1_cells q_t_sh2 q_t_sh2_cells q_t_sh3 q_t_sh3_cells t_traced t_lastFault t_sh_lane t_sh_size (va_up t_sh_cells 1 (va_cpy (t_sh_cells 2) (t_sh_cells 1) p_i.toNatClampNeg p_j.toNatClampNeg p_n.toNatClampNeg))) H := hP
                    have hD : va_D A (w_Tq_copy cI cJ cS q_t q_t_plan q_t_counter q_t_choices q_t_ringers q_t_readings q_t_sheets q_t_sh0 q_t_sh0_cells q_t_sh1 q_t_sh1_cells q_t_sh2 q_t_sh2_cells q_t_sh3 q_t_sh3_cells t_traced t_lastFault t_sh_lane t_sh_size (va_up t_sh_cells 1 (va_cpy (t_sh_cells 2) (t_sh_cells 1) p_i.toNatClampNeg p_j.toNatClampNeg p_n.toNatClampNeg))) := hD
                    refine lv_aload_n hx hb dX8_copy_124 rfl (lv_at hl 2 rfl) ?_
                    refine lv_iload hx hb dX8_copy_125 (lv_at hl 7 rfl) ?_
                    obtain ⟨y37, h38, hM⟩ := o_bd hM
                    refine af_i (ws2 := (w_Tq_copy cI cJ cS q_t q_t_plan q_t_counter q_t_choices q_t_ringers q_t_readings q_t_sheets q_t_sh0 q_t_sh0_cells q_t_sh1 q_t_sh1_cells q_t_sh2 q_t_sh2_cells q_t_sh3 q_t_sh3_cells t_traced y37.2 t_sh_lane t_sh_size (va_up t_sh_cells 1 (va_cpy (t_sh_cells 2) (t_sh_cells 1) p_i.toNatClampNeg p_j.toNatClampNeg p_n.toNatClampNeg)))) (va_runV (As := [.int p_n]) (rest := []) ⟨hx, hb, hml, hown, hts⟩ (c_Tq_faultless l D cI cJ cS q_t q_t_plan q_t_counter q_t_choices q_t_ringers q_t_readings q_t_sheets t_traced t_lastFault p_n y37 h38 _) (cwV 1 hts gX8_copy_X8_faultless rfl rfl rfl (by decide +kernel) ⟨(Nat.le_of_ble_eq_true rfl), (Nat.le_of_ble_eq_true rfl)⟩) (pre_V hK hP hD [0] rfl rfl rfl rfl) rfl rfl hl.1 rfl (lv_room (Nat.le_of_ble_eq_true rfl)) dX8_copy_127 ⟨Nat.zero_le _, Nat.zero_le _⟩) hP hD hS hA [0] [1, 2, 3, 4, 5, 6, 7, 8, 9] [9, 0, 1, 2, 3, 4, 5, 6, 7, 8] rfl rfl rfl (by decide) rfl rfl (fun H locs hP hD hS => ?_)
                    have hM := (Option.some.inj hM)
                    subst hM
                    exact rt_i hx hb hr hlocks hP hD hS dX8_copy_130
                  · have hM := (o_if hM).1 c31
                    refine lv_aload_n hx hb dX8_copy_100 rfl (lv_at hl 2 rfl) ?_
                    refine lv_iconst (v := 3) hx hb dX8_copy_101 (by decide) ?_
                    obtain ⟨y39, h40, hM⟩ := o_bd hM
                    refine af_i (ws2 := (w_Tq_copy cI cJ cS q_t q_t_plan q_t_counter q_t_choices q_t_ringers q_t_readings q_t_sheets q_t_sh0 q_t_sh0_cells q_t_sh1 q_t_sh1_cells q_t_sh2 q_t_sh2_cells q_t_sh3 q_t_sh3_cells t_traced y39.2 t_sh_lane t_sh_size t_sh_cells)) (va_runV (As := [.int 3]) (rest := []) ⟨hx, hb, hml, hown, hts⟩ (c_Tq_faulted l D cI cJ cS q_t q_t_plan q_t_counter q_t_choices q_t_ringers q_t_readings q_t_sheets t_traced t_lastFault 3 y39 h40 _) (cwV 1 hts gX8_copy_X8_faulted rfl rfl rfl (by decide +kernel) ⟨(Nat.le_of_ble_eq_true rfl), (Nat.le_of_ble_eq_true rfl)⟩) (pre_V hK hP hD [0] rfl rfl rfl rfl) rfl rfl hl.1 rfl (lv_room (Nat.le_of_ble_eq_true rfl)) dX8_copy_102 ⟨Nat.zero_le _, Nat.zero_le _⟩) hP hD hS hA [0] [1, 2, 3, 4, 5, 6, 7, 8, 9] [9, 0, 1, 2, 3, 4, 5, 6, 7, 8] rfl rfl rfl (by decide) rfl rfl (fun H locs hP hD hS => ?_)
                    have hM := (Option.some.inj hM)
                    subst hM
                    exact rt_i hx hb hr hlocks hP hD hS dX8_copy_105
              · have hM := (o_if hM).2 c23
                refine lv_aload_n hx hb dX8_copy_71 rfl (lv_at hl 2 rfl) ?_
                refine lv_iconst (v := 2) hx hb dX8_copy_72 (by decide) ?_
                obtain ⟨y41, h42, hM⟩ := o_bd hM
                refine af_i (ws2 := (w_Tq_copy cI cJ cS q_t q_t_plan q_t_counter q_t_choices q_t_ringers q_t_readings q_t_sheets q_t_sh0 q_t_sh0_cells q_t_sh1 q_t_sh1_cells q_t_sh2 q_t_sh2_cells q_t_sh3 q_t_sh3_cells t_traced y41.2 t_sh_lane t_sh_size t_sh_cells)) (va_runV (As := [.int 2]) (rest := []) ⟨hx, hb, hml, hown, hts⟩ (c_Tq_faulted l D cI cJ cS q_t q_t_plan q_t_counter q_t_choices q_t_ringers q_t_readings q_t_sheets t_traced t_lastFault 2 y41 h42 _) (cwV 1 hts gX8_copy_X8_faulted rfl rfl rfl (by decide +kernel) ⟨(Nat.le_of_ble_eq_true rfl), (Nat.le_of_ble_eq_true rfl)⟩) (pre_V hK hP hD [0] rfl rfl rfl rfl) rfl rfl hl.1 rfl (lv_room (Nat.le_of_ble_eq_true rfl)) dX8_copy_73 ⟨Nat.zero_le _, Nat.zero_le _⟩) hP hD hS hA [0] [1, 2, 3, 4, 5, 6, 7, 8, 9] [9, 0, 1, 2, 3, 4, 5, 6, 7, 8] rfl rfl rfl (by decide) rfl rfl (fun H locs hP hD hS => ?_)
                have hM := (Option.some.inj hM)
                subst hM
                exact rt_i hx hb hr hlocks hP hD hS dX8_copy_76
            · have hM := (o_if hM).2 c20
              refine lv_aload_n hx hb dX8_copy_52 rfl (lv_at hl 2 rfl) ?_
              refine lv_iconst (v := 1) hx hb dX8_copy_53 (by decide) ?_
              obtain ⟨y43, h44, hM⟩ := o_bd hM
              refine af_i (ws2 := (w_Tq_copy cI cJ cS q_t q_t_plan q_t_counter q_t_choices q_t_ringers q_t_readings q_t_sheets q_t_sh0 q_t_sh0_cells q_t_sh1 q_t_sh1_cells q_t_sh2 q_t_sh2_cells q_t_sh3 q_t_sh3_cells t_traced y43.2 t_sh_lane t_sh_size t_sh_cells)) (va_runV (As := [.int 1]) (rest := []) ⟨hx, hb, hml, hown, hts⟩ (c_Tq_faulted l D cI cJ cS q_t q_t_plan q_t_counter q_t_choices q_t_ringers q_t_readings q_t_sheets t_traced t_lastFault 1 y43 h44 _) (cwV 1 hts gX8_copy_X8_faulted rfl rfl rfl (by decide +kernel) ⟨(Nat.le_of_ble_eq_true rfl), (Nat.le_of_ble_eq_true rfl)⟩) (pre_V hK hP hD [0] rfl rfl rfl rfl) rfl rfl hl.1 rfl (lv_room (Nat.le_of_ble_eq_true rfl)) dX8_copy_54 ⟨Nat.zero_le _, Nat.zero_le _⟩) hP hD hS hA [0] [1, 2, 3, 4, 5, 6, 7, 8, 9] [9, 0, 1, 2, 3, 4, 5, 6, 7, 8] rfl rfl rfl (by decide) rfl rfl (fun H locs hP hD hS => ?_)
              have hM := (Option.some.inj hM)
              subst hM
              exact rt_i hx hb hr hlocks hP hD hS dX8_copy_57
        · refine W.eq (g2 := F0 m 34 ls [.ref q_t_sh2]) rfl ?_
          refine lv_astore (lv' := [(7, .ref q_t_sh2), (6, .ref q_t_sh2), (0, .ref q_t), (1, .int p_k), (2, .int p_i), (3, .int p_other), (4, .int p_j), (5, .int p_n)]) hx hb dX8_copy_34 hl (Nat.le_of_ble_eq_true rfl) rfl (fun ls hl => ?_)
          refine lv_aload hx hb dX8_copy_36 (lv_at hl 1 rfl) ?_
          obtain ⟨y13, h14, hM⟩ := o_bd hM
          refine af_i (ws2 := (w_Tq_copy cI cJ cS q_t q_t_plan q_t_counter q_t_choices q_t_ringers q_t_readings q_t_sheets q_t_sh0 q_t_sh0_cells q_t_sh1 q_t_sh1_cells q_t_sh2 q_t_sh2_cells q_t_sh3 q_t_sh3_cells t_traced t_lastFault t_sh_lane t_sh_size t_sh_cells)) (va_runV (As := []) (rest := []) ⟨hx, hb, hml, hown, hts⟩ (c_Sh_hasNothing l D cI cJ cS q_t_sh2 q_t_sh2_cells (t_sh_lane 2) (t_sh_size 2) y13 h14 _) (cwV 0 hts gX8_copy_X6_hasNothing rfl rfl rfl (by decide +kernel) ⟨(Nat.le_of_ble_eq_true rfl), (Nat.le_of_ble_eq_true rfl)⟩) (pre_V hK hP hD [6] rfl rfl rfl rfl) rfl rfl hl.1 rfl (lv_room (Nat.le_of_ble_eq_true rfl)) dX8_copy_38 ⟨Nat.zero_le _, Nat.zero_le _⟩) hP hD hS hA [6] [0, 1, 2, 3, 4, 5, 7, 8, 9] [0, 1, 2, 3, 4, 5, 9, 6, 7, 8] rfl rfl rfl (by decide) rfl rfl (fun H locs hP hD hS => ?_)
          refine lv_if_ne (tgt := 52) hx hb dX8_copy_41 (by decide) (fun c15 => ?_) (fun c15 => ?_)
          · have hM := (o_if hM).2 c15
            refine lv_aload_n hx hb dX8_copy_52 rfl (lv_at hl 2 rfl) ?_
            refine lv_iconst (v := 1) hx hb dX8_copy_53 (by decide) ?_
            obtain ⟨y16, h17, hM⟩ := o_bd hM
            refine af_i (ws2 := (w_Tq_copy cI cJ cS q_t q_t_plan q_t_counter q_t_choices q_t_ringers q_t_readings q_t_sheets q_t_sh0 q_t_sh0_cells q_t_sh1 q_t_sh1_cells q_t_sh2 q_t_sh2_cells q_t_sh3 q_t_sh3_cells t_traced y16.2 t_sh_lane t_sh_size t_sh_cells)) (va_runV (As := [.int 1]) (rest := []) ⟨hx, hb, hml, hown, hts⟩ (c_Tq_faulted l D cI cJ cS q_t q_t_plan q_t_counter q_t_choices q_t_ringers q_t_readings q_t_sheets t_traced t_lastFault 1 y16 h17 _) (cwV 1 hts gX8_copy_X8_faulted rfl rfl rfl (by decide +kernel) ⟨(Nat.le_of_ble_eq_true rfl), (Nat.le_of_ble_eq_true rfl)⟩) (pre_V hK hP hD [0] rfl rfl rfl rfl) rfl rfl hl.1 rfl (lv_room (Nat.le_of_ble_eq_true rfl)) dX8_copy_54 ⟨Nat.zero_le _, Nat.zero_le _⟩) hP hD hS hA [0] [1, 2, 3, 4, 5, 6, 7, 8, 9] [9, 0, 1, 2, 3, 4, 5, 6, 7, 8] rfl rfl rfl (by decide) rfl rfl (fun H locs hP hD hS => ?_)
            have hM := (Option.some.inj hM)
            subst hM
            exact rt_i hx hb hr hlocks hP hD hS dX8_copy_57
          · have hM := (o_if hM).1 c15
            refine lv_aload hx hb dX8_copy_44 (lv_at hl 0 rfl) ?_
            obtain ⟨y18, h19, hM⟩ := o_bd hM
            refine af_i (ws2 := (w_Tq_copy cI cJ cS q_t q_t_plan q_t_counter q_t_choices q_t_ringers q_t_readings q_t_sheets q_t_sh0 q_t_sh0_cells q_t_sh1 q_t_sh1_cells q_t_sh2 q_t_sh2_cells q_t_sh3 q_t_sh3_cells t_traced t_lastFault t_sh_lane t_sh_size t_sh_cells)) (va_runV (As := []) (rest := []) ⟨hx, hb, hml, hown, hts⟩ (c_Sh_hasNothing l D cI cJ cS q_t_sh2 q_t_sh2_cells (t_sh_lane 2) (t_sh_size 2) y18 h19 _) (cwV 0 hts gX8_copy_X6_hasNothing rfl rfl rfl (by decide +kernel) ⟨(Nat.le_of_ble_eq_true rfl), (Nat.le_of_ble_eq_true rfl)⟩) (pre_V hK hP hD [6] rfl rfl rfl rfl) rfl rfl hl.1 rfl (lv_room (Nat.le_of_ble_eq_true rfl)) dX8_copy_46 ⟨Nat.zero_le _, Nat.zero_le _⟩) hP hD hS hA [6] [0, 1, 2, 3, 4, 5, 7, 8, 9] [0, 1, 2, 3, 4, 5, 9, 6, 7, 8] rfl rfl rfl (by decide) rfl rfl (fun H locs hP hD hS => ?_)
            refine lv_if_eq (tgt := 58) hx hb dX8_copy_49 (by decide) (fun c20 => ?_) (fun c20 => ?_)
            · have hM := (o_if hM).1 c20
              refine lv_aload hx hb dX8_copy_58 (lv_at hl 0 rfl) ?_
              refine lv_aload hx hb dX8_copy_60 (lv_at hl 1 rfl) ?_
              refine va_getN (ci := 6) (v := .int (t_sh_lane 2)) (C := RX6) (T := TX6) (N := 3) (host := RX8) hx hb hts iX6 hown hK.1 hP 6 rfl rfl 1 (Nat.le_of_ble_eq_true rfl) (va_Nw.use rfl hK.2.2.2.2.2.2.2.2.2.2.2.2.2.2.2.2.2.1) (fun _ h9 => h9) rfl dX8_copy_62 ?_
              obtain ⟨y21, h22, hM⟩ := o_bd hM
              refine af_i (ws2 := (w_Tq_copy cI cJ cS q_t q_t_plan q_t_counter q_t_choices q_t_ringers q_t_readings q_t_sheets q_t_sh0 q_t_sh0_cells q_t_sh1 q_t_sh1_cells q_t_sh2 q_t_sh2_cells q_t_sh3 q_t_sh3_cells t_traced t_lastFault t_sh_lane t_sh_size t_sh_cells)) (va_runV (As := [.int (t_sh_lane 2)]) (rest := []) ⟨hx, hb, hml, hown, hts⟩ (c_Sh_isOfAnother l D cI cJ cS q_t_sh2 q_t_sh2_cells (t_sh_lane 2) (t_sh_size 2) (t_sh_lane 2) y21 h22 _) (cwV 1 hts gX8_copy_X6_isOfAnother rfl rfl rfl (by decide +kernel) ⟨(Nat.le_of_ble_eq_true rfl), (Nat.le_of_ble_eq_true rfl)⟩) (pre_V hK hP hD [6] rfl rfl rfl rfl) rfl rfl hl.1 rfl (lv_room (Nat.le_of_ble_eq_true rfl)) dX8_copy_65 ⟨Nat.zero_le _, Nat.zero_le _⟩) hP hD hS hA [6] [0, 1, 2, 3, 4, 5, 7, 8, 9] [0, 1, 2, 3, 4, 5, 9, 6, 7, 8] rfl rfl rfl (by decide) rfl rfl (fun H locs hP hD hS => ?_)
              refine lv_if_eq (tgt := 77) hx hb dX8_copy_68 (by decide) (fun c23 => ?_) (fun c23 => ?_)
              · have hM := (o_if hM).1 c23
                refine lv_aload hx hb dX8_copy_77 (lv_at hl 1 rfl) ?_
                refine lv_iload_n hx hb dX8_copy_79 rfl (lv_at hl 4 rfl) ?_
                refine lv_iload hx hb dX8_copy_80 (lv_at hl 7 rfl) ?_
                obtain ⟨y24, h25, hM⟩ := o_bd hM
                refine af_i (ws2 := (w_Tq_copy cI cJ cS q_t q_t_plan q_t_counter q_t_choices q_t_ringers q_t_readings q_t_sheets q_t_sh0 q_t_sh0_cells q_t_sh1 q_t_sh1_cells q_t_sh2 q_t_sh2_cells q_t_sh3 q_t_sh3_cells t_traced t_lastFault t_sh_lane t_sh_size t_sh_cells)) (va_runV (As := [.int p_i, .int p_n]) (rest := []) ⟨hx, hb, hml, hown, hts⟩ (c_Sh_holds l D cI cJ cS q_t_sh2 q_t_sh2_cells (t_sh_lane 2) (t_sh_size 2) p_i p_n y24 h25 _) (cwV 2 hts gX8_copy_X6_holds rfl rfl rfl (by decide +kernel) ⟨(Nat.le_of_ble_eq_true rfl), (Nat.le_of_ble_eq_true rfl)⟩) (pre_V hK hP hD [6] rfl rfl rfl rfl) rfl rfl hl.1 rfl (lv_room (Nat.le_of_ble_eq_true rfl)) dX8_copy_82 ⟨Nat.zero_le _, Nat.zero_le _⟩) hP hD hS hA [6] [0, 1, 2, 3, 4, 5, 7, 8, 9] [0, 1, 2, 3, 4, 5, 9, 6, 7, 8] rfl rfl rfl (by decide) rfl rfl (fun H locs hP hD hS => ?_)
                refine lv_if_eq (tgt := 100) hx hb dX8_copy_85 (by decide) (fun c26 => ?_) (fun c26 => ?_)
                · have hM := (o_if hM).1 c26
                  refine lv_aload_n hx hb dX8_copy_100 rfl (lv_at hl 2 rfl) ?_
                  refine lv_iconst (v := 3) hx hb dX8_copy_101 (by decide) ?_
                  obtain ⟨y27, h28, hM⟩ := o_bd hM
                  refine af_i (ws2 := (w_Tq_copy cI cJ cS q_t q_t_plan q_t_counter q_t_choices q_t_ringers q_t_readings q_t_sheets q_t_sh0 q_t_sh0_cells q_t_sh1 q_t_sh1_cells q_t_sh2 q_t_sh2_cells q_t_sh3 q_t_sh3_cells t_traced y27.2 t_sh_lane t_sh_size t_sh_cells)) (va_runV (As := [.int 3]) (rest := []) ⟨hx, hb, hml, hown, hts⟩ (c_Tq_faulted l D cI cJ cS q_t q_t_plan q_t_counter q_t_choices q_t_ringers q_t_readings q_t_sheets t_traced t_lastFault 3 y27 h28 _) (cwV 1 hts gX8_copy_X8_faulted rfl rfl rfl (by decide +kernel) ⟨(Nat.le_of_ble_eq_true rfl), (Nat.le_of_ble_eq_true rfl)⟩) (pre_V hK hP hD [0] rfl rfl rfl rfl) rfl rfl hl.1 rfl (lv_room (Nat.le_of_ble_eq_true rfl)) dX8_copy_102 ⟨Nat.zero_le _, Nat.zero_le _⟩) hP hD hS hA [0] [1, 2, 3, 4, 5, 6, 7, 8, 9] [9, 0, 1, 2, 3, 4, 5, 6, 7, 8] rfl rfl rfl (by decide) rfl rfl (fun H locs hP hD hS => ?_)
                  have hM := (Option.some.inj hM)
                  subst hM
                  exact rt_i hx hb hr hlocks hP hD hS dX8_copy_105
                · have hM := (o_if hM).2 c26
                  refine lv_aload hx hb dX8_copy_88 (lv_at hl 0 rfl) ?_
                  refine lv_iload hx hb dX8_copy_90 (lv_at hl 6 rfl) ?_
                  refine lv_iload hx hb dX8_copy_92 (lv_at hl 7 rfl) ?_
                  obtain ⟨y29, h30, hM⟩ := o_bd hM
                  refine af_i (ws2 := (w_Tq_copy cI cJ cS q_t q_t_plan q_t_counter q_t_choices q_t_ringers q_t_readings q_t_sheets q_t_sh0 q_t_sh0_cells q_t_sh1 q_t_sh1_cells q_t_sh2 q_t_sh2_cells q_t_sh3 q_t_sh3_cells t_traced t_lastFault t_sh_lane t_sh_size t_sh_cells)) (va_runV (As := [.int p_j, .int p_n]) (rest := []) ⟨hx, hb, hml, hown, hts⟩ (c_Sh_holds l D cI cJ cS q_t_sh2 q_t_sh2_cells (t_sh_lane 2) (t_sh_size 2) p_j p_n y29 h30 _) (cwV 2 hts gX8_copy_X6_holds rfl rfl rfl (by decide +kernel) ⟨(Nat.le_of_ble_eq_true rfl), (Nat.le_of_ble_eq_true rfl)⟩) (pre_V hK hP hD [6] rfl rfl rfl rfl) rfl rfl hl.1 rfl (lv_room (Nat.le_of_ble_eq_true rfl)) dX8_copy_94 ⟨Nat.zero_le _, Nat.zero_le _⟩) hP hD hS hA [6] [0, 1, 2, 3, 4, 5, 7, 8, 9] [0, 1, 2, 3, 4, 5, 9, 6, 7, 8] rfl rfl rfl (by decide) rfl rfl (fun H locs hP hD hS => ?_)
                  refine lv_if_ne (tgt := 106) hx hb dX8_copy_97 (by decide) (fun c31 => ?_) (fun c31 => ?_)
                  · have hM := (o_if hM).2 c31
                    refine lv_aload hx hb dX8_copy_106 (lv_at hl 1 rfl) ?_
                    refine va_getN (ci := 6) (v := .ref q_t_sh2_cells) (C := RX6) (T := TX6) (N := 3) (host := RX8) hx hb hts iX6 hown hK.1 hP 6 rfl rfl 0 (Nat.le_of_ble_eq_true rfl) (va_Nw.use rfl hK.2.2.2.2.2.2.2.2.2.2.2.2.2.2.2.2.2.2.1) (fun _ h9 => h9) rfl dX8_copy_108 ?_
                    refine lv_iload_n hx hb dX8_copy_111 rfl (lv_at hl 4 rfl) ?_
                    refine lv_aload hx hb dX8_copy_112 (lv_at hl 0 rfl) ?_
                    refine va_getN (ci := 6) (v := .ref q_t_sh2_cells) (C := RX6) (T := TX6) (N := 3) (host := RX8) hx hb hts iX6 hown hK.1 hP 6 rfl rfl 0 (Nat.le_of_ble_eq_true rfl) (va_Nw.use rfl hK.2.2.2.2.2.2.2.2.2.2.2.2.2.2.2.2.2.2.1) (fun _ h9 => h9) rfl dX8_copy_114 ?_
                    refine lv_iload hx hb dX8_copy_117 (lv_at hl 6 rfl) ?_
                    refine lv_iload hx hb dX8_copy_119 (lv_at hl 7 rfl) ?_
                    obtain ⟨h32, hM⟩ := o_gd hM
                    obtain ⟨h33, hM⟩ := o_gd hM
                    obtain ⟨h34, hM⟩ := o_gd hM
                    obtain ⟨h35, hM⟩ := o_gd hM
                    obtain ⟨h36, hM⟩ := o_gd hM
                    refine va_copyi hx hb (by rw [hml]; exact hl.1.symm) hown k1 k2 k3 k4 hK.1 hP hD hS 7 7 0 0 rfl rfl rfl rfl rfl h32 h33 h34 h35 h36 (fun _ _ => rfl) (Nat.le_of_ble_eq_true rfl) (Nat.le_of_ble_eq_true rfl) dX8_copy_121 (fun H locs hP hD hS => ?_)
                    have hP : va_P D vwCl (w_Tq_copy cI cJ cS q_t q_t_plan q_t_counter q_t_choices q_t_ringers q_t_readings q_t_sheets q_t_sh0 q_t_sh0_cells q_t_sh1 q_t_sh1_cells q_t_sh2 q_t_sh2_cells q_t_sh3 q_t_sh3_cells t_traced t_lastFault t_sh_lane t_sh_size (va_up t_sh_cells 2 (va_cpy (t_sh_cells 2) (t_sh_cells 2) p_i.toNatClampNeg p_j.toNatClampNeg p_n.toNatClampNeg))) H := hP
                    have hD : va_D A (w_Tq_copy cI cJ cS q_t q_t_plan q_t_counter q_t_choices q_t_ringers q_t_readings q_t_sheets q_t_sh0 q_t_sh0_cells q_t_sh1 q_t_sh1_cells q_t_sh2 q_t_sh2_cells q_t_sh3 q_t_sh3_cells t_traced t_lastFault t_sh_lane t_sh_size (va_up t_sh_cells 2 (va_cpy (t_sh_cells 2) (t_sh_cells 2) p_i.toNatClampNeg p_j.toNatClampNeg p_n.toNatClampNeg))) := hD
                    refine lv_aload_n hx hb dX8_copy_124 rfl (lv_at hl 2 rfl) ?_
                    refine lv_iload hx hb dX8_copy_125 (lv_at hl 7 rfl) ?_
                    obtain ⟨y37, h38, hM⟩ := o_bd hM
                    refine af_i (ws2 := (w_Tq_copy cI cJ cS q_t q_t_plan q_t_counter q_t_choices q_t_ringers q_t_readings q_t_sheets q_t_sh0 q_t_sh0_cells q_t_sh1 q_t_sh1_cells q_t_sh2 q_t_sh2_cells q_t_sh3 q_t_sh3_cells t_traced y37.2 t_sh_lane t_sh_size (va_up t_sh_cells 2 (va_cpy (t_sh_cells 2) (t_sh_cells 2) p_i.toNatClampNeg p_j.toNatClampNeg p_n.toNatClampNeg)))) (va_runV (As := [.int p_n]) (rest := []) ⟨hx, hb, hml, hown, hts⟩ (c_Tq_faultless l D cI cJ cS q_t q_t_plan q_t_counter q_t_choices q_t_ringers q_t_readings q_t_sheets t_traced t_lastFault p_n y37 h38 _) (cwV 1 hts gX8_copy_X8_faultless rfl rfl rfl (by decide +kernel) ⟨(Nat.le_of_ble_eq_true rfl), (Nat.le_of_ble_eq_true rfl)⟩) (pre_V hK hP hD [0] rfl rfl rfl rfl) rfl rfl hl.1 rfl (lv_room (Nat.le_of_ble_eq_true rfl)) dX8_copy_127 ⟨Nat.zero_le _, Nat.zero_le _⟩) hP hD hS hA [0] [1, 2, 3, 4, 5, 6, 7, 8, 9] [9, 0, 1, 2, 3, 4, 5, 6, 7, 8] rfl rfl rfl (by decide) rfl rfl (fun H locs hP hD hS => ?_)
                    have hM := (Option.some.inj hM)
                    subst hM
                    exact rt_i hx hb hr hlocks hP hD hS dX8_copy_130
                  · have hM := (o_if hM).1 c31
                    refine lv_aload_n hx hb dX8_copy_100 rfl (lv_at hl 2 rfl) ?_
                    refine lv_iconst (v := 3) hx hb dX8_copy_101 (by decide) ?_
                    obtain ⟨y39, h40, hM⟩ := o_bd hM
                    refine af_i (ws2 := (w_Tq_copy cI cJ cS q_t q_t_plan q_t_counter q_t_choices q_t_ringers q_t_readings q_t_sheets q_t_sh0 q_t_sh0_cells q_t_sh1 q_t_sh1_cells q_t_sh2 q_t_sh2_cells q_t_sh3 q_t_sh3_cells t_traced y39.2 t_sh_lane t_sh_size t_sh_cells)) (va_runV (As := [.int 3]) (rest := []) ⟨hx, hb, hml, hown, hts⟩ (c_Tq_faulted l D cI cJ cS q_t q_t_plan q_t_counter q_t_choices q_t_ringers q_t_readings q_t_sheets t_traced t_lastFault 3 y39 h40 _) (cwV 1 hts gX8_copy_X8_faulted rfl rfl rfl (by decide +kernel) ⟨(Nat.le_of_ble_eq_true rfl), (Nat.le_of_ble_eq_true rfl)⟩) (pre_V hK hP hD [0] rfl rfl rfl rfl) rfl rfl hl.1 rfl (lv_room (Nat.le_of_ble_eq_true rfl)) dX8_copy_102 ⟨Nat.zero_le _, Nat.zero_le _⟩) hP hD hS hA [0] [1, 2, 3, 4, 5, 6, 7, 8, 9] [9, 0, 1, 2, 3, 4, 5, 6, 7, 8] rfl rfl rfl (by decide) rfl rfl (fun H locs hP hD hS => ?_)
                    have hM := (Option.some.inj hM)
                    subst hM
                    exact rt_i hx hb hr hlocks hP hD hS dX8_copy_105
              · have hM := (o_if hM).2 c23
                refine lv_aload_n hx hb dX8_copy_71 rfl (lv_at hl 2 rfl) ?_
                refine lv_iconst (v := 2) hx hb dX8_copy_72 (by decide) ?_
                obtain ⟨y41, h42, hM⟩ := o_bd hM
                refine af_i (ws2 := (w_Tq_copy cI cJ cS q_t q_t_plan q_t_counter q_t_choices q_t_ringers q_t_readings q_t_sheets q_t_sh0 q_t_sh0_cells q_t_sh1 q_t_sh1_cells q_t_sh2 q_t_sh2_cells q_t_sh3 q_t_sh3_cells t_traced y41.2 t_sh_lane t_sh_size t_sh_cells)) (va_runV (As := [.int 2]) (rest := []) ⟨hx, hb, hml, hown, hts⟩ (c_Tq_faulted l D cI cJ cS q_t q_t_plan q_t_counter q_t_choices q_t_ringers q_t_readings q_t_sheets t_traced t_lastFault 2 y41 h42 _) (cwV 1 hts gX8_copy_X8_faulted rfl rfl rfl (by decide +kernel) ⟨(Nat.le_of_ble_eq_true rfl), (Nat.le_of_ble_eq_true rfl)⟩) (pre_V hK hP hD [0] rfl rfl rfl rfl) rfl rfl hl.1 rfl (lv_room (Nat.le_of_ble_eq_true rfl)) dX8_copy_73 ⟨Nat.zero_le _, Nat.zero_le _⟩) hP hD hS hA [0] [1, 2, 3, 4, 5, 6, 7, 8, 9] [9, 0, 1, 2, 3, 4, 5, 6, 7, 8] rfl rfl rfl (by decide) rfl rfl (fun H locs hP hD hS => ?_)
                have hM := (Option.some.inj hM)
                subst hM
                exact rt_i hx hb hr hlocks hP hD hS dX8_copy_76
            · have hM := (o_if hM).2 c20
              refine lv_aload_n hx hb dX8_copy_52 rfl (lv_at hl 2 rfl) ?_
              refine lv_iconst (v := 1) hx hb dX8_copy_53 (by decide) ?_
              obtain ⟨y43, h44, hM⟩ := o_bd hM
              refine af_i (ws2 := (w_Tq_copy cI cJ cS q_t q_t_plan q_t_counter q_t_choices q_t_ringers q_t_readings q_t_sheets q_t_sh0 q_t_sh0_cells q_t_sh1 q_t_sh1_cells q_t_sh2 q_t_sh2_cells q_t_sh3 q_t_sh3_cells t_traced y43.2 t_sh_lane t_sh_size t_sh_cells)) (va_runV (As := [.int 1]) (rest := []) ⟨hx, hb, hml, hown, hts⟩ (c_Tq_faulted l D cI cJ cS q_t q_t_plan q_t_counter q_t_choices q_t_ringers q_t_readings q_t_sheets t_traced t_lastFault 1 y43 h44 _) (cwV 1 hts gX8_copy_X8_faulted rfl rfl rfl (by decide +kernel) ⟨(Nat.le_of_ble_eq_true rfl), (Nat.le_of_ble_eq_true rfl)⟩) (pre_V hK hP hD [0] rfl rfl rfl rfl) rfl rfl hl.1 rfl (lv_room (Nat.le_of_ble_eq_true rfl)) dX8_copy_54 ⟨Nat.zero_le _, Nat.zero_le _⟩) hP hD hS hA [0] [1, 2, 3, 4, 5, 6, 7, 8, 9] [9, 0, 1, 2, 3, 4, 5, 6, 7, 8] rfl rfl rfl (by decide) rfl rfl (fun H locs hP hD hS => ?_)
              have hM := (Option.some.inj hM)
              subst hM
              exact rt_i hx hb hr hlocks hP hD hS dX8_copy_57
        · refine W.eq (g2 := F0 m 34 ls [.ref q_t_sh3]) rfl ?_
          refine lv_astore (lv' := [(7, .ref q_t_sh3), (6, .ref q_t_sh2), (0, .ref q_t), (1, .int p_k), (2, .int p_i), (3, .int p_other), (4, .int p_j), (5, .int p_n)]) hx hb dX8_copy_34 hl (Nat.le_of_ble_eq_true rfl) rfl (fun ls hl => ?_)
          refine lv_aload hx hb dX8_copy_36 (lv_at hl 1 rfl) ?_
          obtain ⟨y13, h14, hM⟩ := o_bd hM
          refine af_i (ws2 := (w_Tq_copy cI cJ cS q_t q_t_plan q_t_counter q_t_choices q_t_ringers q_t_readings q_t_sheets q_t_sh0 q_t_sh0_cells q_t_sh1 q_t_sh1_cells q_t_sh2 q_t_sh2_cells q_t_sh3 q_t_sh3_cells t_traced t_lastFault t_sh_lane t_sh_size t_sh_cells)) (va_runV (As := []) (rest := []) ⟨hx, hb, hml, hown, hts⟩ (c_Sh_hasNothing l D cI cJ cS q_t_sh2 q_t_sh2_cells (t_sh_lane 2) (t_sh_size 2) y13 h14 _) (cwV 0 hts gX8_copy_X6_hasNothing rfl rfl rfl (by decide +kernel) ⟨(Nat.le_of_ble_eq_true rfl), (Nat.le_of_ble_eq_true rfl)⟩) (pre_V hK hP hD [6] rfl rfl rfl rfl) rfl rfl hl.1 rfl (lv_room (Nat.le_of_ble_eq_true rfl)) dX8_copy_38 ⟨Nat.zero_le _, Nat.zero_le _⟩) hP hD hS hA [6] [0, 1, 2, 3, 4, 5, 7, 8, 9] [0, 1, 2, 3, 4, 5, 9, 6, 7, 8] rfl rfl rfl (by decide) rfl rfl (fun H locs hP hD hS => ?_)
          refine lv_if_ne (tgt := 52) hx hb dX8_copy_41 (by decide) (fun c15 => ?_) (fun c15 => ?_)
          · have hM := (o_if hM).2 c15
            refine lv_aload_n hx hb dX8_copy_52 rfl (lv_at hl 2 rfl) ?_
            refine lv_iconst (v := 1) hx hb dX8_copy_53 (by decide) ?_
            obtain ⟨y16, h17, hM⟩ := o_bd hM
            refine af_i (ws2 := (w_Tq_copy cI cJ cS q_t q_t_plan q_t_counter q_t_choices q_t_ringers q_t_readings q_t_sheets q_t_sh0 q_t_sh0_cells q_t_sh1 q_t_sh1_cells q_t_sh2 q_t_sh2_cells q_t_sh3 q_t_sh3_cells t_traced y16.2 t_sh_lane t_sh_size t_sh_cells)) (va_runV (As := [.int 1]) (rest := []) ⟨hx, hb, hml, hown, hts⟩ (c_Tq_faulted l D cI cJ cS q_t q_t_plan q_t_counter q_t_choices q_t_ringers q_t_readings q_t_sheets t_traced t_lastFault 1 y16 h17 _) (cwV 1 hts gX8_copy_X8_faulted rfl rfl rfl (by decide +kernel) ⟨(Nat.le_of_ble_eq_true rfl), (Nat.le_of_ble_eq_true rfl)⟩) (pre_V hK hP hD [0] rfl rfl rfl rfl) rfl rfl hl.1 rfl (lv_room (Nat.le_of_ble_eq_true rfl)) dX8_copy_54 ⟨Nat.zero_le _, Nat.zero_le _⟩) hP hD hS hA [0] [1, 2, 3, 4, 5, 6, 7, 8, 9] [9, 0, 1, 2, 3, 4, 5, 6, 7, 8] rfl rfl rfl (by decide) rfl rfl (fun H locs hP hD hS => ?_)
            have hM := (Option.some.inj hM)
            subst hM
            exact rt_i hx hb hr hlocks hP hD hS dX8_copy_57
          · have hM := (o_if hM).1 c15
            refine lv_aload hx hb dX8_copy_44 (lv_at hl 0 rfl) ?_
            obtain ⟨y18, h19, hM⟩ := o_bd hM
            refine af_i (ws2 := (w_Tq_copy cI cJ cS q_t q_t_plan q_t_counter q_t_choices q_t_ringers q_t_readings q_t_sheets q_t_sh0 q_t_sh0_cells q_t_sh1 q_t_sh1_cells q_t_sh2 q_t_sh2_cells q_t_sh3 q_t_sh3_cells t_traced t_lastFault t_sh_lane t_sh_size t_sh_cells)) (va_runV (As := []) (rest := []) ⟨hx, hb, hml, hown, hts⟩ (c_Sh_hasNothing l D cI cJ cS q_t_sh3 q_t_sh3_cells (t_sh_lane 3) (t_sh_size 3) y18 h19 _) (cwV 0 hts gX8_copy_X6_hasNothing rfl rfl rfl (by decide +kernel) ⟨(Nat.le_of_ble_eq_true rfl), (Nat.le_of_ble_eq_true rfl)⟩) (pre_V hK hP hD [8] rfl rfl rfl rfl) rfl rfl hl.1 rfl (lv_room (Nat.le_of_ble_eq_true rfl)) dX8_copy_46 ⟨Nat.zero_le _, Nat.zero_le _⟩) hP hD hS hA [8] [0, 1, 2, 3, 4, 5, 6, 7, 9] [0, 1, 2, 3, 4, 5, 6, 7, 9, 8] rfl rfl rfl (by decide) rfl rfl (fun H locs hP hD hS => ?_)
            refine lv_if_eq (tgt := 58) hx hb dX8_copy_49 (by decide) (fun c20 => ?_) (fun c20 => ?_)
            · have hM := (o_if hM).1 c20
              refine lv_aload hx hb dX8_copy_58 (lv_at hl 0 rfl) ?_
              refine lv_aload hx hb dX8_copy_60 (lv_at hl 1 rfl) ?_
              refine va_getN (ci := 6) (v := .int (t_sh_lane 2)) (C := RX6) (T := TX6) (N := 3) (host := RX8) hx hb hts iX6 hown hK.1 hP 6 rfl rfl 1 (Nat.le_of_ble_eq_true rfl) (va_Nw.use rfl hK.2.2.2.2.2.2.2.2.2.2.2.2.2.2.2.2.2.1) (fun _ h9 => h9) rfl dX8_copy_62 ?_
              obtain ⟨y21, h22, hM⟩ := o_bd hM
              refine af_i (ws2 := (w_Tq_copy cI cJ cS q_t q_t_plan q_t_counter q_t_choices q_t_ringers q_t_readings q_t_sheets q_t_sh0 q_t_sh0_cells q_t_sh1 q_t_sh1_cells q_t_sh2 q_t_sh2_cells q_t_sh3 q_t_sh3_cells t_traced t_lastFault t_sh_lane t_sh_size t_sh_cells)) (va_runV (As := [.int (t_sh_lane 2)]) (rest := []) ⟨hx, hb, hml, hown, hts⟩ (c_Sh_isOfAnother l D cI cJ cS q_t_sh3 q_t_sh3_cells (t_sh_lane 3) (t_sh_size 3) (t_sh_lane 2) y21 h22 _) (cwV 1 hts gX8_copy_X6_isOfAnother rfl rfl rfl (by decide +kernel) ⟨(Nat.le_of_ble_eq_true rfl), (Nat.le_of_ble_eq_true rfl)⟩) (pre_V hK hP hD [8] rfl rfl rfl rfl) rfl rfl hl.1 rfl (lv_room (Nat.le_of_ble_eq_true rfl)) dX8_copy_65 ⟨Nat.zero_le _, Nat.zero_le _⟩) hP hD hS hA [8] [0, 1, 2, 3, 4, 5, 6, 7, 9] [0, 1, 2, 3, 4, 5, 6, 7, 9, 8] rfl rfl rfl (by decide) rfl rfl (fun H locs hP hD hS => ?_)
              refine lv_if_eq (tgt := 77) hx hb dX8_copy_68 (by decide) (fun c23 => ?_) (fun c23 => ?_)
              · have hM := (o_if hM).1 c23
                refine lv_aload hx hb dX8_copy_77 (lv_at hl 1 rfl) ?_
                refine lv_iload_n hx hb dX8_copy_79 rfl (lv_at hl 4 rfl) ?_
                refine lv_iload hx hb dX8_copy_80 (lv_at hl 7 rfl) ?_
                obtain ⟨y24, h25, hM⟩ := o_bd hM
                refine af_i (ws2 := (w_Tq_copy cI cJ cS q_t q_t_plan q_t_counter q_t_choices q_t_ringers q_t_readings q_t_sheets q_t_sh0 q_t_sh0_cells q_t_sh1 q_t_sh1_cells q_t_sh2 q_t_sh2_cells q_t_sh3 q_t_sh3_cells t_traced t_lastFault t_sh_lane t_sh_size t_sh_cells)) (va_runV (As := [.int p_i, .int p_n]) (rest := []) ⟨hx, hb, hml, hown, hts⟩ (c_Sh_holds l D cI cJ cS q_t_sh2 q_t_sh2_cells (t_sh_lane 2) (t_sh_size 2) p_i p_n y24 h25 _) (cwV 2 hts gX8_copy_X6_holds rfl rfl rfl (by decide +kernel) ⟨(Nat.le_of_ble_eq_true rfl), (Nat.le_of_ble_eq_true rfl)⟩) (pre_V hK hP hD [6] rfl rfl rfl rfl) rfl rfl hl.1 rfl (lv_room (Nat.le_of_ble_eq_true rfl)) dX8_copy_82 ⟨Nat.zero_le _, Nat.zero_le _⟩) hP hD hS hA [6] [0, 1, 2, 3, 4, 5, 7, 8, 9] [0, 1, 2, 3, 4, 5, 9, 6, 7, 8] rfl rfl rfl (by decide) rfl rfl (fun H locs hP hD hS => ?_)
                refine lv_if_eq (tgt := 100) hx hb dX8_copy_85 (by decide) (fun c26 => ?_) (fun c26 => ?_)
                · have hM := (o_if hM).1 c26
                  refine lv_aload_n hx hb dX8_copy_100 rfl (lv_at hl 2 rfl) ?_
                  refine lv_iconst (v := 3) hx hb dX8_copy_101 (by decide) ?_
                  obtain ⟨y27, h28, hM⟩ := o_bd hM
                  refine af_i (ws2 := (w_Tq_copy cI cJ cS q_t q_t_plan q_t_counter q_t_choices q_t_ringers q_t_readings q_t_sheets q_t_sh0 q_t_sh0_cells q_t_sh1 q_t_sh1_cells q_t_sh2 q_t_sh2_cells q_t_sh3 q_t_sh3_cells t_traced y27.2 t_sh_lane t_sh_size t_sh_cells)) (va_runV (As := [.int 3]) (rest := []) ⟨hx, hb, hml, hown, hts⟩ (c_Tq_faulted l D cI cJ cS q_t q_t_plan q_t_counter q_t_choices q_t_ringers q_t_readings q_t_sheets t_traced t_lastFault 3 y27 h28 _) (cwV 1 hts gX8_copy_X8_faulted rfl rfl rfl (by decide +kernel) ⟨(Nat.le_of_ble_eq_true rfl), (Nat.le_of_ble_eq_true rfl)⟩) (pre_V hK hP hD [0] rfl rfl rfl rfl) rfl rfl hl.1 rfl (lv_room (Nat.le_of_ble_eq_true rfl)) dX8_copy_102 ⟨Nat.zero_le _, Nat.zero_le _⟩) hP hD hS hA [0] [1, 2, 3, 4, 5, 6, 7, 8, 9] [9, 0, 1, 2, 3, 4, 5, 6, 7, 8] rfl rfl rfl (by decide) rfl rfl (fun H locs hP hD hS => ?_)
                  have hM := (Option.some.inj hM)
                  subst hM
                  exact rt_i hx hb hr hlocks hP hD hS dX8_copy_105
                · have hM := (o_if hM).2 c26
                  refine lv_aload hx hb dX8_copy_88 (lv_at hl 0 rfl) ?_
                  refine lv_iload hx hb dX8_copy_90 (lv_at hl 6 rfl) ?_
                  refine lv_iload hx hb dX8_copy_92 (lv_at hl 7 rfl) ?_
                  obtain ⟨y29, h30, hM⟩ := o_bd hM
                  refine af_i (ws2 := (w_Tq_copy cI cJ cS q_t q_t_plan q_t_counter q_t_choices q_t_ringers q_t_readings q_t_sheets q_t_sh0 q_t_sh0_cells q_t_sh1 q_t_sh1_cells q_t_sh2 q_t_sh2_cells q_t_sh3 q_t_sh3_cells t_traced t_lastFault t_sh_lane t_sh_size t_sh_cells)) (va_runV (As := [.int p_j, .int p_n]) (rest := []) ⟨hx, hb, hml, hown, hts⟩ (c_Sh_holds l D cI cJ cS q_t_sh3 q_t_sh3_cells (t_sh_lane 3) (t_sh_size 3) p_j p_n y29 h30 _) (cwV 2 hts gX8_copy_X6_holds rfl rfl rfl (by decide +kernel) ⟨(Nat.le_of_ble_eq_true rfl), (Nat.le_of_ble_eq_true rfl)⟩) (pre_V hK hP hD [8] rfl rfl rfl rfl) rfl rfl hl.1 rfl (lv_room (Nat.le_of_ble_eq_true rfl)) dX8_copy_94 ⟨Nat.zero_le _, Nat.zero_le _⟩) hP hD hS hA [8] [0, 1, 2, 3, 4, 5, 6, 7, 9] [0, 1, 2, 3, 4, 5, 6, 7, 9, 8] rfl rfl rfl (by decide) rfl rfl (fun H locs hP hD hS => ?_)
                  refine lv_if_ne (tgt := 106) hx hb dX8_copy_97 (by decide) (fun c31 => ?_) (fun c31 => ?_)
                  · have hM := (o_if hM).2 c31
                    refine lv_aload hx hb dX8_copy_106 (lv_at hl 1 rfl) ?_
                    refine va_getN (ci := 6) (v := .ref q_t_sh2_cells) (C := RX6) (T := TX6) (N := 3) (host := RX8) hx hb hts iX6 hown hK.1 hP 6 rfl rfl 0 (Nat.le_of_ble_eq_true rfl) (va_Nw.use rfl hK.2.2.2.2.2.2.2.2.2.2.2.2.2.2.2.2.2.2.1) (fun _ h9 => h9) rfl dX8_copy_108 ?_
                    refine lv_iload_n hx hb dX8_copy_111 rfl (lv_at hl 4 rfl) ?_
                    refine lv_aload hx hb dX8_copy_112 (lv_at hl 0 rfl) ?_
                    refine va_getN (ci := 6) (v := .ref q_t_sh3_cells) (C := RX6) (T := TX6) (N := 3) (host := RX8) hx hb hts iX6 hown hK.1 hP 8 rfl rfl 0 (Nat.le_of_ble_eq_true rfl) (va_Nw.use rfl hK.2.2.2.2.2.2.2.2.2.2.2.2.2.2.2.2.2.2.1) (fun _ h9 => h9) rfl dX8_copy_114 ?_
                    refine lv_iload hx hb dX8_copy_117 (lv_at hl 6 rfl) ?_
                    refine lv_iload hx hb dX8_copy_119 (lv_at hl 7 rfl) ?_
                    obtain ⟨h32, hM⟩ := o_gd hM
                    obtain ⟨h33, hM⟩ := o_gd hM
                    obtain ⟨h34, hM⟩ := o_gd hM
                    obtain ⟨h35, hM⟩ := o_gd hM
                    obtain ⟨h36, hM⟩ := o_gd hM
                    refine va_copyi hx hb (by rw [hml]; exact hl.1.symm) hown k1 k2 k3 k4 hK.1 hP hD hS 7 9 0 0 rfl rfl rfl rfl rfl h32 h33 h34 h35 h36 (fun _ _ => rfl) (Nat.le_of_ble_eq_true rfl) (Nat.le_of_ble_eq_true rfl) dX8_copy_121 (fun H locs hP hD hS => ?_)
                    have hP : va_P D vwCl (w_Tq_copy cI cJ cS q_t q_t_plan q_t_counter q_t_choices q_t_ringers q_t_readings q_t_sheets q_t_sh0 q_t_sh0_cells q_t_sh1 q_t_sh1_cells q_t_sh2 q_t_sh2_cells q_t_sh3 q_t_sh3_cells t_traced t_lastFault t_sh_lane t_sh_size (va_up t_sh_cells 3 (va_cpy (t_sh_cells 2) (t_sh_cells 3) p_i.toNatClampNeg p_j.toNatClampNeg p_n.toNatClampNeg))) H := hP
                    have hD : va_D A (w_Tq_copy cI cJ cS q_t q_t_plan q_t_counter q_t_choices q_t_ringers q_t_readings q_t_sheets q_t_sh0 q_t_sh0_cells q_t_sh1 q_t_sh1_cells q_t_sh2 q_t_sh2_cells q_t_sh3 q_t_sh3_cells t_traced t_lastFault t_sh_lane t_sh_size (va_up t_sh_cells 3 (va_cpy (t_sh_cells 2) (t_sh_cells 3) p_i.toNatClampNeg p_j.toNatClampNeg p_n.toNatClampNeg))) := hD
                    refine lv_aload_n hx hb dX8_copy_124 rfl (lv_at hl 2 rfl) ?_
                    refine lv_iload hx hb dX8_copy_125 (lv_at hl 7 rfl) ?_
                    obtain ⟨y37, h38, hM⟩ := o_bd hM
                    refine af_i (ws2 := (w_Tq_copy cI cJ cS q_t q_t_plan q_t_counter q_t_choices q_t_ringers q_t_readings q_t_sheets q_t_sh0 q_t_sh0_cells q_t_sh1 q_t_sh1_cells q_t_sh2 q_t_sh2_cells q_t_sh3 q_t_sh3_cells t_traced y37.2 t_sh_lane t_sh_size (va_up t_sh_cells 3 (va_cpy (t_sh_cells 2) (t_sh_cells 3) p_i.toNatClampNeg p_j.toNatClampNeg p_n.toNatClampNeg)))) (va_runV (As := [.int p_n]) (rest := []) ⟨hx, hb, hml, hown, hts⟩ (c_Tq_faultless l D cI cJ cS q_t q_t_plan q_t_counter q_t_choices q_t_ringers q_t_readings q_t_sheets t_traced t_lastFault p_n y37 h38 _) (cwV 1 hts gX8_copy_X8_faultless rfl rfl rfl (by decide +kernel) ⟨(Nat.le_of_ble_eq_true rfl), (Nat.le_of_ble_eq_true rfl)⟩) (pre_V hK hP hD [0] rfl rfl rfl rfl) rfl rfl hl.1 rfl (lv_room (Nat.le_of_ble_eq_true rfl)) dX8_copy_127 ⟨Nat.zero_le _, Nat.zero_le _⟩) hP hD hS hA [0] [1, 2, 3, 4, 5, 6, 7, 8, 9] [9, 0, 1, 2, 3, 4, 5, 6, 7, 8] rfl rfl rfl (by decide) rfl rfl (fun H locs hP hD hS => ?_)
                    have hM := (Option.some.inj hM)
                    subst hM
                    exact rt_i hx hb hr hlocks hP hD hS dX8_copy_130
                  · have hM := (o_if hM).1 c31
                    refine lv_aload_n hx hb dX8_copy_100 rfl (lv_at hl 2 rfl) ?_
                    refine lv_iconst (v := 3) hx hb dX8_copy_101 (by decide) ?_
                    obtain ⟨y39, h40, hM⟩ := o_bd hM
                    refine af_i (ws2 := (w_Tq_copy cI cJ cS q_t q_t_plan q_t_counter q_t_choices q_t_ringers q_t_readings q_t_sheets q_t_sh0 q_t_sh0_cells q_t_sh1 q_t_sh1_cells q_t_sh2 q_t_sh2_cells q_t_sh3 q_t_sh3_cells t_traced y39.2 t_sh_lane t_sh_size t_sh_cells)) (va_runV (As := [.int 3]) (rest := []) ⟨hx, hb, hml, hown, hts⟩ (c_Tq_faulted l D cI cJ cS q_t q_t_plan q_t_counter q_t_choices q_t_ringers q_t_readings q_t_sheets t_traced t_lastFault 3 y39 h40 _) (cwV 1 hts gX8_copy_X8_faulted rfl rfl rfl (by decide +kernel) ⟨(Nat.le_of_ble_eq_true rfl), (Nat.le_of_ble_eq_true rfl)⟩) (pre_V hK hP hD [0] rfl rfl rfl rfl) rfl rfl hl.1 rfl (lv_room (Nat.le_of_ble_eq_true rfl)) dX8_copy_102 ⟨Nat.zero_le _, Nat.zero_le _⟩) hP hD hS hA [0] [1, 2, 3, 4, 5, 6, 7, 8, 9] [9, 0, 1, 2, 3, 4, 5, 6, 7, 8] rfl rfl rfl (by decide) rfl rfl (fun H locs hP hD hS => ?_)
                    have hM := (Option.some.inj hM)
                    subst hM
                    exact rt_i hx hb hr hlocks hP hD hS dX8_copy_105
              · have hM := (o_if hM).2 c23
                refine lv_aload_n hx hb dX8_copy_71 rfl (lv_at hl 2 rfl) ?_
                refine lv_iconst (v := 2) hx hb dX8_copy_72 (by decide) ?_
                obtain ⟨y41, h42, hM⟩ := o_bd hM
                refine af_i (ws2 := (w_Tq_copy cI cJ cS q_t q_t_plan q_t_counter q_t_choices q_t_ringers q_t_readings q_t_sheets q_t_sh0 q_t_sh0_cells q_t_sh1 q_t_sh1_cells q_t_sh2 q_t_sh2_cells q_t_sh3 q_t_sh3_cells t_traced y41.2 t_sh_lane t_sh_size t_sh_cells)) (va_runV (As := [.int 2]) (rest := []) ⟨hx, hb, hml, hown, hts⟩ (c_Tq_faulted l D cI cJ cS q_t q_t_plan q_t_counter q_t_choices q_t_ringers q_t_readings q_t_sheets t_traced t_lastFault 2 y41 h42 _) (cwV 1 hts gX8_copy_X8_faulted rfl rfl rfl (by decide +kernel) ⟨(Nat.le_of_ble_eq_true rfl), (Nat.le_of_ble_eq_true rfl)⟩) (pre_V hK hP hD [0] rfl rfl rfl rfl) rfl rfl hl.1 rfl (lv_room (Nat.le_of_ble_eq_true rfl)) dX8_copy_73 ⟨Nat.zero_le _, Nat.zero_le _⟩) hP hD hS hA [0] [1, 2, 3, 4, 5, 6, 7, 8, 9] [9, 0, 1, 2, 3, 4, 5, 6, 7, 8] rfl rfl rfl (by decide) rfl rfl (fun H locs hP hD hS => ?_)
                have hM := (Option.some.inj hM)
                subst hM
                exact rt_i hx hb hr hlocks hP hD hS dX8_copy_76
            · have hM := (o_if hM).2 c20
              refine lv_aload_n hx hb dX8_copy_52 rfl (lv_at hl 2 rfl) ?_
              refine lv_iconst (v := 1) hx hb dX8_copy_53 (by decide) ?_
              obtain ⟨y43, h44, hM⟩ := o_bd hM
              refine af_i (ws2 := (w_Tq_copy cI cJ cS q_t q_t_plan q_t_counter q_t_choices q_t_ringers q_t_readings q_t_sheets q_t_sh0 q_t_sh0_cells q_t_sh1 q_t_sh1_cells q_t_sh2 q_t_sh2_cells q_t_sh3 q_t_sh3_cells t_traced y43.2 t_sh_lane t_sh_size t_sh_cells)) (va_runV (As := [.int 1]) (rest := []) ⟨hx, hb, hml, hown, hts⟩ (c_Tq_faulted l D cI cJ cS q_t q_t_plan q_t_counter q_t_choices q_t_ringers q_t_readings q_t_sheets t_traced t_lastFault 1 y43 h44 _) (cwV 1 hts gX8_copy_X8_faulted rfl rfl rfl (by decide +kernel) ⟨(Nat.le_of_ble_eq_true rfl), (Nat.le_of_ble_eq_true rfl)⟩) (pre_V hK hP hD [0] rfl rfl rfl rfl) rfl rfl hl.1 rfl (lv_room (Nat.le_of_ble_eq_true rfl)) dX8_copy_54 ⟨Nat.zero_le _, Nat.zero_le _⟩) hP hD hS hA [0] [1, 2, 3, 4, 5, 6, 7, 8, 9] [9, 0, 1, 2, 3, 4, 5, 6, 7, 8] rfl rfl rfl (by decide) rfl rfl (fun H locs hP hD hS => ?_)
              have hM := (Option.some.inj hM)
              subst hM
              exact rt_i hx hb hr hlocks hP hD hS dX8_copy_57
      · refine W.eq (g2 := F0 m 26 ls [.ref q_t_sh3]) rfl ?_
        refine lv_astore (lv' := [(6, .ref q_t_sh3), (0, .ref q_t), (1, .int p_k), (2, .int p_i), (3, .int p_other), (4, .int p_j), (5, .int p_n)]) hx hb dX8_copy_26 hl (Nat.le_of_ble_eq_true rfl) rfl (fun ls hl => ?_)
        refine lv_aload_n hx hb dX8_copy_28 rfl (lv_at hl 1 rfl) ?_
        refine va_get (ci := 7) (v := .ref q_t_sheets) (C := RX8) (T := TX8) (N := 8) hx hb hts iX8 hown hK.1 hP 0 rfl rfl 5 (Nat.le_of_ble_eq_true rfl) k0 (fun _ h9 => h9) rfl dX8_copy_29 ?_
        refine lv_iload_n hx hb dX8_copy_32 rfl (lv_at hl 4 rfl) ?_
        obtain ⟨h11, hM⟩ := o_ck hM
        refine va_aldq hx hb hK.1 hP 1 2 rfl rfl h11 dX8_copy_33 ?_
        obtain ⟨j12, ej12⟩ : ∃ y : Nat, y = p_other.toNatClampNeg := ⟨_, rfl⟩
        have hM := o_lt hM j12 ej12
        have hj12 : j12 < 4 := by rw [ej12]; exact ck_lt h11
        rw [← ej12]
        rcases (show j12 = 0 ∨ j12 = 1 ∨ j12 = 2 ∨ j12 = 3 by omega) with rfl | rfl | rfl | rfl
        · refine W.eq (g2 := F0 m 34 ls [.ref q_t_sh0]) rfl ?_
          refine lv_astore (lv' := [(7, .ref q_t_sh0), (6, .ref q_t_sh3), (0, .ref q_t), (1, .int p_k), (2, .int p_i), (3, .int p_other), (4, .int p_j), (5, .int p_n)]) hx hb dX8_copy_34 hl (Nat.le_of_ble_eq_true rfl) rfl (fun ls hl => ?_)
          refine lv_aload hx hb dX8_copy_36 (lv_at hl 1 rfl) ?_
          obtain ⟨y13, h14, hM⟩ := o_bd hM
          refine af_i (ws2 := (w_Tq_copy cI cJ cS q_t q_t_plan q_t_counter q_t_choices q_t_ringers q_t_readings q_t_sheets q_t_sh0 q_t_sh0_cells q_t_sh1 q_t_sh1_cells q_t_sh2 q_t_sh2_cells q_t_sh3 q_t_sh3_cells t_traced t_lastFault t_sh_lane t_sh_size t_sh_cells)) (va_runV (As := []) (rest := []) ⟨hx, hb, hml, hown, hts⟩ (c_Sh_hasNothing l D cI cJ cS q_t_sh3 q_t_sh3_cells (t_sh_lane 3) (t_sh_size 3) y13 h14 _) (cwV 0 hts gX8_copy_X6_hasNothing rfl rfl rfl (by decide +kernel) ⟨(Nat.le_of_ble_eq_true rfl), (Nat.le_of_ble_eq_true rfl)⟩) (pre_V hK hP hD [8] rfl rfl rfl rfl) rfl rfl hl.1 rfl (lv_room (Nat.le_of_ble_eq_true rfl)) dX8_copy_38 ⟨Nat.zero_le _, Nat.zero_le _⟩) hP hD hS hA [8] [0, 1, 2, 3, 4, 5, 6, 7, 9] [0, 1, 2, 3, 4, 5, 6, 7, 9, 8] rfl rfl rfl (by decide) rfl rfl (fun H locs hP hD hS => ?_)
          refine lv_if_ne (tgt := 52) hx hb dX8_copy_41 (by decide) (fun c15 => ?_) (fun c15 => ?_)
          · have hM := (o_if hM).2 c15
            refine lv_aload_n hx hb dX8_copy_52 rfl (lv_at hl 2 rfl) ?_
            refine lv_iconst (v := 1) hx hb dX8_copy_53 (by decide) ?_
            obtain ⟨y16, h17, hM⟩ := o_bd hM
            refine af_i (ws2 := (w_Tq_copy cI cJ cS q_t q_t_plan q_t_counter q_t_choices q_t_ringers q_t_readings q_t_sheets q_t_sh0 q_t_sh0_cells q_t_sh1 q_t_sh1_cells q_t_sh2 q_t_sh2_cells q_t_sh3 q_t_sh3_cells t_traced y16.2 t_sh_lane t_sh_size t_sh_cells)) (va_runV (As := [.int 1]) (rest := []) ⟨hx, hb, hml, hown, hts⟩ (c_Tq_faulted l D cI cJ cS q_t q_t_plan q_t_counter q_t_choices q_t_ringers q_t_readings q_t_sheets t_traced t_lastFault 1 y16 h17 _) (cwV 1 hts gX8_copy_X8_faulted rfl rfl rfl (by decide +kernel) ⟨(Nat.le_of_ble_eq_true rfl), (Nat.le_of_ble_eq_true rfl)⟩) (pre_V hK hP hD [0] rfl rfl rfl rfl) rfl rfl hl.1 rfl (lv_room (Nat.le_of_ble_eq_true rfl)) dX8_copy_54 ⟨Nat.zero_le _, Nat.zero_le _⟩) hP hD hS hA [0] [1, 2, 3, 4, 5, 6, 7, 8, 9] [9, 0, 1, 2, 3, 4, 5, 6, 7, 8] rfl rfl rfl (by decide) rfl rfl (fun H locs hP hD hS => ?_)
            have hM := (Option.some.inj hM)
            subst hM
            exact rt_i hx hb hr hlocks hP hD hS dX8_copy_57
          · have hM := (o_if hM).1 c15
            refine lv_aload hx hb dX8_copy_44 (lv_at hl 0 rfl) ?_
            obtain ⟨y18, h19, hM⟩ := o_bd hM
            refine af_i (ws2 := (w_Tq_copy cI cJ cS q_t q_t_plan q_t_counter q_t_choices q_t_ringers q_t_readings q_t_sheets q_t_sh0 q_t_sh0_cells q_t_sh1 q_t_sh1_cells q_t_sh2 q_t_sh2_cells q_t_sh3 q_t_sh3_cells t_traced t_lastFault t_sh_lane t_sh_size t_sh_cells)) (va_runV (As := []) (rest := []) ⟨hx, hb, hml, hown, hts⟩ (c_Sh_hasNothing l D cI cJ cS q_t_sh0 q_t_sh0_cells (t_sh_lane 0) (t_sh_size 0) y18 h19 _) (cwV 0 hts gX8_copy_X6_hasNothing rfl rfl rfl (by decide +kernel) ⟨(Nat.le_of_ble_eq_true rfl), (Nat.le_of_ble_eq_true rfl)⟩) (pre_V hK hP hD [2] rfl rfl rfl rfl) rfl rfl hl.1 rfl (lv_room (Nat.le_of_ble_eq_true rfl)) dX8_copy_46 ⟨Nat.zero_le _, Nat.zero_le _⟩) hP hD hS hA [2] [0, 1, 3, 4, 5, 6, 7, 8, 9] [0, 1, 9, 2, 3, 4, 5, 6, 7, 8] rfl rfl rfl (by decide) rfl rfl (fun H locs hP hD hS => ?_)
            refine lv_if_eq (tgt := 58) hx hb dX8_copy_49 (by decide) (fun c20 => ?_) (fun c20 => ?_)
            · have hM := (o_if hM).1 c20
              refine lv_aload hx hb dX8_copy_58 (lv_at hl 0 rfl) ?_
              refine lv_aload hx hb dX8_copy_60 (lv_at hl 1 rfl) ?_
              refine va_getN (ci := 6) (v := .int (t_sh_lane 3)) (C := RX6) (T := TX6) (N := 3) (host := RX8) hx hb hts iX6 hown hK.1 hP 8 rfl rfl 1 (Nat.le_of_ble_eq_true rfl) (va_Nw.use rfl hK.2.2.2.2.2.2.2.2.2.2.2.2.2.2.2.2.2.1) (fun _ h9 => h9) rfl dX8_copy_62 ?_
              obtain ⟨y21, h22, hM⟩ := o_bd hM
              refine af_i (ws2 := (w_Tq_copy cI cJ cS q_t q_t_plan q_t_counter q_t_choices q_t_ringers q_t_readings q_t_sheets q_t_sh0 q_t_sh0_cells q_t_sh1 q_t_sh1_cells q_t_sh2 q_t_sh2_cells q_t_sh3 q_t_sh3_cells t_traced t_lastFault t_sh_lane t_sh_size t_sh_cells)) (va_runV (As := [.int (t_sh_lane 3)]) (rest := []) ⟨hx, hb, hml, hown, hts⟩ (c_Sh_isOfAnother l D cI cJ cS q_t_sh0 q_t_sh0_cells (t_sh_lane 0) (t_sh_size 0) (t_sh_lane 3) y21 h22 _) (cwV 1 hts gX8_copy_X6_isOfAnother rfl rfl rfl (by decide +kernel) ⟨(Nat.le_of_ble_eq_true rfl), (Nat.le_of_ble_eq_true rfl)⟩) (pre_V hK hP hD [2] rfl rfl rfl rfl) rfl rfl hl.1 rfl (lv_room (Nat.le_of_ble_eq_true rfl)) dX8_copy_65 ⟨Nat.zero_le _, Nat.zero_le _⟩) hP hD hS hA [2] [0, 1, 3, 4, 5, 6, 7, 8, 9] [0, 1, 9, 2, 3, 4, 5, 6, 7, 8] rfl rfl rfl (by decide) rfl rfl (fun H locs hP hD hS => ?_)
              refine lv_if_eq (tgt := 77) hx hb dX8_copy_68 (by decide) (fun c23 => ?_) (fun c23 => ?_)
              · have hM := (o_if hM).1 c23
                refine lv_aload hx hb dX8_copy_77 (lv_at hl 1 rfl) ?_
                refine lv_iload_n hx hb dX8_copy_79 rfl (lv_at hl 4 rfl) ?_
                refine lv_iload hx hb dX8_copy_80 (lv_at hl 7 rfl) ?_
                obtain ⟨y24, h25, hM⟩ := o_bd hM
                refine af_i (ws2 := (w_Tq_copy cI cJ cS q_t q_t_plan q_t_counter q_t_choices q_t_ringers q_t_readings q_t_sheets q_t_sh0 q_t_sh0_cells q_t_sh1 q_t_sh1_cells q_t_sh2 q_t_sh2_cells q_t_sh3 q_t_sh3_cells t_traced t_lastFault t_sh_lane t_sh_size t_sh_cells)) (va_runV (As := [.int p_i, .int p_n]) (rest := []) ⟨hx, hb, hml, hown, hts⟩ (c_Sh_holds l D cI cJ cS q_t_sh3 q_t_sh3_cells (t_sh_lane 3) (t_sh_size 3) p_i p_n y24 h25 _) (cwV 2 hts gX8_copy_X6_holds rfl rfl rfl (by decide +kernel) ⟨(Nat.le_of_ble_eq_true rfl), (Nat.le_of_ble_eq_true rfl)⟩) (pre_V hK hP hD [8] rfl rfl rfl rfl) rfl rfl hl.1 rfl (lv_room (Nat.le_of_ble_eq_true rfl)) dX8_copy_82 ⟨Nat.zero_le _, Nat.zero_le _⟩) hP hD hS hA [8] [0, 1, 2, 3, 4, 5, 6, 7, 9] [0, 1, 2, 3, 4, 5, 6, 7, 9, 8] rfl rfl rfl (by decide) rfl rfl (fun H locs hP hD hS => ?_)
                refine lv_if_eq (tgt := 100) hx hb dX8_copy_85 (by decide) (fun c26 => ?_) (fun c26 => ?_)
                · have hM := (o_if hM).1 c26
                  refine lv_aload_n hx hb dX8_copy_100 rfl (lv_at hl 2 rfl) ?_
                  refine lv_iconst (v := 3) hx hb dX8_copy_101 (by decide) ?_
                  obtain ⟨y27, h28, hM⟩ := o_bd hM
                  refine af_i (ws2 := (w_Tq_copy cI cJ cS q_t q_t_plan q_t_counter q_t_choices q_t_ringers q_t_readings q_t_sheets q_t_sh0 q_t_sh0_cells q_t_sh1 q_t_sh1_cells q_t_sh2 q_t_sh2_cells q_t_sh3 q_t_sh3_cells t_traced y27.2 t_sh_lane t_sh_size t_sh_cells)) (va_runV (As := [.int 3]) (rest := []) ⟨hx, hb, hml, hown, hts⟩ (c_Tq_faulted l D cI cJ cS q_t q_t_plan q_t_counter q_t_choices q_t_ringers q_t_readings q_t_sheets t_traced t_lastFault 3 y27 h28 _) (cwV 1 hts gX8_copy_X8_faulted rfl rfl rfl (by decide +kernel) ⟨(Nat.le_of_ble_eq_true rfl), (Nat.le_of_ble_eq_true rfl)⟩) (pre_V hK hP hD [0] rfl rfl rfl rfl) rfl rfl hl.1 rfl (lv_room (Nat.le_of_ble_eq_true rfl)) dX8_copy_102 ⟨Nat.zero_le _, Nat.zero_le _⟩) hP hD hS hA [0] [1, 2, 3, 4, 5, 6, 7, 8, 9] [9, 0, 1, 2, 3, 4, 5, 6, 7, 8] rfl rfl rfl (by decide) rfl rfl (fun H locs hP hD hS => ?_)
                  have hM := (Option.some.inj hM)
                  subst hM
                  exact rt_i hx hb hr hlocks hP hD hS dX8_copy_105
                · have hM := (o_if hM).2 c26
                  refine lv_aload hx hb dX8_copy_88 (lv_at hl 0 rfl) ?_
                  refine lv_iload hx hb dX8_copy_90 (lv_at hl 6 rfl) ?_
                  refine lv_iload hx hb dX8_copy_92 (lv_at hl 7 rfl) ?_
                  obtain ⟨y29, h30, hM⟩ := o_bd hM
                  refine af_i (ws2 := (w_Tq_copy cI cJ cS q_t q_t_plan q_t_counter q_t_choices q_t_ringers q_t_readings q_t_sheets q_t_sh0 q_t_sh0_cells q_t_sh1 q_t_sh1_cells q_t_sh2 q_t_sh2_cells q_t_sh3 q_t_sh3_cells t_traced t_lastFault t_sh_lane t_sh_size t_sh_cells)) (va_runV (As := [.int p_j, .int p_n]) (rest := []) ⟨hx, hb, hml, hown, hts⟩ (c_Sh_holds l D cI cJ cS q_t_sh0 q_t_sh0_cells (t_sh_lane 0) (t_sh_size 0) p_j p_n y29 h30 _) (cwV 2 hts gX8_copy_X6_holds rfl rfl rfl (by decide +kernel) ⟨(Nat.le_of_ble_eq_true rfl), (Nat.le_of_ble_eq_true rfl)⟩) (pre_V hK hP hD [2] rfl rfl rfl rfl) rfl rfl hl.1 rfl (lv_room (Nat.le_of_ble_eq_true rfl)) dX8_copy_94 ⟨Nat.zero_le _, Nat.zero_le _⟩) hP hD hS hA [2] [0, 1, 3, 4, 5, 6, 7, 8, 9] [0, 1, 9, 2, 3, 4, 5, 6, 7, 8] rfl rfl rfl (by decide) rfl rfl (fun H locs hP hD hS => ?_)
                  refine lv_if_ne (tgt := 106) hx hb dX8_copy_97 (by decide) (fun c31 => ?_) (fun c31 => ?_)
                  · have hM := (o_if hM).2 c31
                    refine lv_aload hx hb dX8_copy_106 (lv_at hl 1 rfl) ?_
                    refine va_getN (ci := 6) (v := .ref q_t_sh3_cells) (C := RX6) (T := TX6) (N := 3) (host := RX8) hx hb hts iX6 hown hK.1 hP 8 rfl rfl 0 (Nat.le_of_ble_eq_true rfl) (va_Nw.use rfl hK.2.2.2.2.2.2.2.2.2.2.2.2.2.2.2.2.2.2.1) (fun _ h9 => h9) rfl dX8_copy_108 ?_
                    refine lv_iload_n hx hb dX8_copy_111 rfl (lv_at hl 4 rfl) ?_
                    refine lv_aload hx hb dX8_copy_112 (lv_at hl 0 rfl) ?_
                    refine va_getN (ci := 6) (v := .ref q_t_sh0_cells) (C := RX6) (T := TX6) (N := 3) (host := RX8) hx hb hts iX6 hown hK.1 hP 2 rfl rfl 0 (Nat.le_of_ble_eq_true rfl) (va_Nw.use rfl hK.2.2.2.2.2.2.2.2.2.2.2.2.2.2.2.2.2.2.1) (fun _ h9 => h9) rfl dX8_copy_114 ?_
                    refine lv_iload hx hb dX8_copy_117 (lv_at hl 6 rfl) ?_
                    refine lv_iload hx hb dX8_copy_119 (lv_at hl 7 rfl) ?_
                    obtain ⟨h32, hM⟩ := o_gd hM
                    obtain ⟨h33, hM⟩ := o_gd hM
                    obtain ⟨h34, hM⟩ := o_gd hM
                    obtain ⟨h35, hM⟩ := o_gd hM
                    obtain ⟨h36, hM⟩ := o_gd hM
                    refine va_copyi hx hb (by rw [hml]; exact hl.1.symm) hown k1 k2 k3 k4 hK.1 hP hD hS 9 3 0 0 rfl rfl rfl rfl rfl h32 h33 h34 h35 h36 (fun _ _ => rfl) (Nat.le_of_ble_eq_true rfl) (Nat.le_of_ble_eq_true rfl) dX8_copy_121 (fun H locs hP hD hS => ?_)
                    have hP : va_P D vwCl (w_Tq_copy cI cJ cS q_t q_t_plan q_t_counter q_t_choices q_t_ringers q_t_readings q_t_sheets q_t_sh0 q_t_sh0_cells q_t_sh1 q_t_sh1_cells q_t_sh2 q_t_sh2_cells q_t_sh3 q_t_sh3_cells t_traced t_lastFault t_sh_lane t_sh_size (va_up t_sh_cells 0 (va_cpy (t_sh_cells 3) (t_sh_cells 0) p_i.toNatClampNeg p_j.toNatClampNeg p_n.toNatClampNeg))) H := hP
                    have hD : va_D A (w_Tq_copy cI cJ cS q_t q_t_plan q_t_counter q_t_choices q_t_ringers q_t_readings q_t_sheets q_t_sh0 q_t_sh0_cells q_t_sh1 q_t_sh1_cells q_t_sh2 q_t_sh2_cells q_t_sh3 q_t_sh3_cells t_traced t_lastFault t_sh_lane t_sh_size (va_up t_sh_cells 0 (va_cpy (t_sh_cells 3) (t_sh_cells 0) p_i.toNatClampNeg p_j.toNatClampNeg p_n.toNatClampNeg))) := hD
                    refine lv_aload_n hx hb dX8_copy_124 rfl (lv_at hl 2 rfl) ?_
                    refine lv_iload hx hb dX8_copy_125 (lv_at hl 7 rfl) ?_
                    obtain ⟨y37, h38, hM⟩ := o_bd hM
                    refine af_i (ws2 := (w_Tq_copy cI cJ cS q_t q_t_plan q_t_counter q_t_choices q_t_ringers q_t_readings q_t_sheets q_t_sh0 q_t_sh0_cells q_t_sh1 q_t_sh1_cells q_t_sh2 q_t_sh2_cells q_t_sh3 q_t_sh3_cells t_traced y37.2 t_sh_lane t_sh_size (va_up t_sh_cells 0 (va_cpy (t_sh_cells 3) (t_sh_cells 0) p_i.toNatClampNeg p_j.toNatClampNeg p_n.toNatClampNeg)))) (va_runV (As := [.int p_n]) (rest := []) ⟨hx, hb, hml, hown, hts⟩ (c_Tq_faultless l D cI cJ cS q_t q_t_plan q_t_counter q_t_choices q_t_ringers q_t_readings q_t_sheets t_traced t_lastFault p_n y37 h38 _) (cwV 1 hts gX8_copy_X8_faultless rfl rfl rfl (by decide +kernel) ⟨(Nat.le_of_ble_eq_true rfl), (Nat.le_of_ble_eq_true rfl)⟩) (pre_V hK hP hD [0] rfl rfl rfl rfl) rfl rfl hl.1 rfl (lv_room (Nat.le_of_ble_eq_true rfl)) dX8_copy_127 ⟨Nat.zero_le _, Nat.zero_le _⟩) hP hD hS hA [0] [1, 2, 3, 4, 5, 6, 7, 8, 9] [9, 0, 1, 2, 3, 4, 5, 6, 7, 8] rfl rfl rfl (by decide) rfl rfl (fun H locs hP hD hS => ?_)
                    have hM := (Option.some.inj hM)
                    subst hM
                    exact rt_i hx hb hr hlocks hP hD hS dX8_copy_130
                  · have hM := (o_if hM).1 c31
                    refine lv_aload_n hx hb dX8_copy_100 rfl (lv_at hl 2 rfl) ?_
                    refine lv_iconst (v := 3) hx hb dX8_copy_101 (by decide) ?_
                    obtain ⟨y39, h40, hM⟩ := o_bd hM
                    refine af_i (ws2 := (w_Tq_copy cI cJ cS q_t q_t_plan q_t_counter q_t_choices q_t_ringers q_t_readings q_t_sheets q_t_sh0 q_t_sh0_cells q_t_sh1 q_t_sh1_cells q_t_sh2 q_t_sh2_cells q_t_sh3 q_t_sh3_cells t_traced y39.2 t_sh_lane t_sh_size t_sh_cells)) (va_runV (As := [.int 3]) (rest := []) ⟨hx, hb, hml, hown, hts⟩ (c_Tq_faulted l D cI cJ cS q_t q_t_plan q_t_counter q_t_choices q_t_ringers q_t_readings q_t_sheets t_traced t_lastFault 3 y39 h40 _) (cwV 1 hts gX8_copy_X8_faulted rfl rfl rfl (by decide +kernel) ⟨(Nat.le_of_ble_eq_true rfl), (Nat.le_of_ble_eq_true rfl)⟩) (pre_V hK hP hD [0] rfl rfl rfl rfl) rfl rfl hl.1 rfl (lv_room (Nat.le_of_ble_eq_true rfl)) dX8_copy_102 ⟨Nat.zero_le _, Nat.zero_le _⟩) hP hD hS hA [0] [1, 2, 3, 4, 5, 6, 7, 8, 9] [9, 0, 1, 2, 3, 4, 5, 6, 7, 8] rfl rfl rfl (by decide) rfl rfl (fun H locs hP hD hS => ?_)
                    have hM := (Option.some.inj hM)
                    subst hM
                    exact rt_i hx hb hr hlocks hP hD hS dX8_copy_105
              · have hM := (o_if hM).2 c23
                refine lv_aload_n hx hb dX8_copy_71 rfl (lv_at hl 2 rfl) ?_
                refine lv_iconst (v := 2) hx hb dX8_copy_72 (by decide) ?_
                obtain ⟨y41, h42, hM⟩ := o_bd hM
                refine af_i (ws2 := (w_Tq_copy cI cJ cS q_t q_t_plan q_t_counter q_t_choices q_t_ringers q_t_readings q_t_sheets q_t_sh0 q_t_sh0_cells q_t_sh1 q_t_sh1_cells q_t_sh2 q_t_sh2_cells q_t_sh3 q_t_sh3_cells t_traced y41.2 t_sh_lane t_sh_size t_sh_cells)) (va_runV (As := [.int 2]) (rest := []) ⟨hx, hb, hml, hown, hts⟩ (c_Tq_faulted l D cI cJ cS q_t q_t_plan q_t_counter q_t_choices q_t_ringers q_t_readings q_t_sheets t_traced t_lastFault 2 y41 h42 _) (cwV 1 hts gX8_copy_X8_faulted rfl rfl rfl (by decide +kernel) ⟨(Nat.le_of_ble_eq_true rfl), (Nat.le_of_ble_eq_true rfl)⟩) (pre_V hK hP hD [0] rfl rfl rfl rfl) rfl rfl hl.1 rfl (lv_room (Nat.le_of_ble_eq_true rfl)) dX8_copy_73 ⟨Nat.zero_le _, Nat.zero_le _⟩) hP hD hS hA [0] [1, 2, 3, 4, 5, 6, 7, 8, 9] [9, 0, 1, 2, 3, 4, 5, 6, 7, 8] rfl rfl rfl (by decide) rfl rfl (fun H locs hP hD hS => ?_)
                have hM := (Option.some.inj hM)
                subst hM
                exact rt_i hx hb hr hlocks hP hD hS dX8_copy_76
            · have hM := (o_if hM).2 c20
              refine lv_aload_n hx hb dX8_copy_52 rfl (lv_at hl 2 rfl) ?_
              refine lv_iconst (v := 1) hx hb dX8_copy_53 (by decide) ?_
              obtain ⟨y43, h44, hM⟩ := o_bd hM
              refine af_i (ws2 := (w_Tq_copy cI cJ cS q_t q_t_plan q_t_counter q_t_choices q_t_ringers q_t_readings q_t_sheets q_t_sh0 q_t_sh0_cells q_t_sh1 q_t_sh1_cells q_t_sh2 q_t_sh2_cells q_t_sh3 q_t_sh3_cells t_traced y43.2 t_sh_lane t_sh_size t_sh_cells)) (va_runV (As := [.int 1]) (rest := []) ⟨hx, hb, hml, hown, hts⟩ (c_Tq_faulted l D cI cJ cS q_t q_t_plan q_t_counter q_t_choices q_t_ringers q_t_readings q_t_sheets t_traced t_lastFault 1 y43 h44 _) (cwV 1 hts gX8_copy_X8_faulted rfl rfl rfl (by decide +kernel) ⟨(Nat.le_of_ble_eq_true rfl), (Nat.le_of_ble_eq_true rfl)⟩) (pre_V hK hP hD [0] rfl rfl rfl rfl) rfl rfl hl.1 rfl (lv_room (Nat.le_of_ble_eq_true rfl)) dX8_copy_54 ⟨Nat.zero_le _, Nat.zero_le _⟩) hP hD hS hA [0] [1, 2, 3, 4, 5, 6, 7, 8, 9] [9, 0, 1, 2, 3, 4, 5, 6, 7, 8] rfl rfl rfl (by decide) rfl rfl (fun H locs hP hD hS => ?_)
              have hM := (Option.some.inj hM)
              subst hM
              exact rt_i hx hb hr hlocks hP hD hS dX8_copy_57
        · refine W.eq (g2 := F0 m 34 ls [.ref q_t_sh1]) rfl ?_
          refine lv_astore (lv' := [(7, .ref q_t_sh1), (6, .ref q_t_sh3), (0, .ref q_t), (1, .int p_k), (2, .int p_i), (3, .int p_other), (4, .int p_j), (5, .int p_n)]) hx hb dX8_copy_34 hl (Nat.le_of_ble_eq_true rfl) rfl (fun ls hl => ?_)
          refine lv_aload hx hb dX8_copy_36 (lv_at hl 1 rfl) ?_
          obtain ⟨y13, h14, hM⟩ := o_bd hM
          refine af_i (ws2 := (w_Tq_copy cI cJ cS q_t q_t_plan q_t_counter q_t_choices q_t_ringers q_t_readings q_t_sheets q_t_sh0 q_t_sh0_cells q_t_sh1 q_t_sh1_cells q_t_sh2 q_t_sh2_cells q_t_sh3 q_t_sh3_cells t_traced t_lastFault t_sh_lane t_sh_size t_sh_cells)) (va_runV (As := []) (rest := []) ⟨hx, hb, hml, hown, hts⟩ (c_Sh_hasNothing l D cI cJ cS q_t_sh3 q_t_sh3_cells (t_sh_lane 3) (t_sh_size 3) y13 h14 _) (cwV 0 hts gX8_copy_X6_hasNothing rfl rfl rfl (by decide +kernel) ⟨(Nat.le_of_ble_eq_true rfl), (Nat.le_of_ble_eq_true rfl)⟩) (pre_V hK hP hD [8] rfl rfl rfl rfl) rfl rfl hl.1 rfl (lv_room (Nat.le_of_ble_eq_true rfl)) dX8_copy_38 ⟨Nat.zero_le _, Nat.zero_le _⟩) hP hD hS hA [8] [0, 1, 2, 3, 4, 5, 6, 7, 9] [0, 1, 2, 3, 4, 5, 6, 7, 9, 8] rfl rfl rfl (by decide) rfl rfl (fun H locs hP hD hS => ?_)
          refine lv_if_ne (tgt := 52) hx hb dX8_copy_41 (by decide) (fun c15 => ?_) (fun c15 => ?_)
          · have hM := (o_if hM).2 c15
            refine lv_aload_n hx hb dX8_copy_52 rfl (lv_at hl 2 rfl) ?_
            refine lv_iconst (v := 1) hx hb dX8_copy_53 (by decide) ?_
            obtain ⟨y16, h17, hM⟩ := o_bd hM
            refine af_i (ws2 := (w_Tq_copy cI cJ cS q_t q_t_plan q_t_counter q_t_choices q_t_ringers q_t_readings q_t_sheets q_t_sh0 q_t_sh0_cells q_t_sh1 q_t_sh1_cells q_t_sh2 q_t_sh2_cells q_t_sh3 q_t_sh3_cells t_traced y16.2 t_sh_lane t_sh_size t_sh_cells)) (va_runV (As := [.int 1]) (rest := []) ⟨hx, hb, hml, hown, hts⟩ (c_Tq_faulted l D cI cJ cS q_t q_t_plan q_t_counter q_t_choices q_t_ringers q_t_readings q_t_sheets t_traced t_lastFault 1 y16 h17 _) (cwV 1 hts gX8_copy_X8_faulted rfl rfl rfl (by decide +kernel) ⟨(Nat.le_of_ble_eq_true rfl), (Nat.le_of_ble_eq_true rfl)⟩) (pre_V hK hP hD [0] rfl rfl rfl rfl) rfl rfl hl.1 rfl (lv_room (Nat.le_of_ble_eq_true rfl)) dX8_copy_54 ⟨Nat.zero_le _, Nat.zero_le _⟩) hP hD hS hA [0] [1, 2, 3, 4, 5, 6, 7, 8, 9] [9, 0, 1, 2, 3, 4, 5, 6, 7, 8] rfl rfl rfl (by decide) rfl rfl (fun H locs hP hD hS => ?_)
            have hM := (Option.some.inj hM)
            subst hM
            exact rt_i hx hb hr hlocks hP hD hS dX8_copy_57
          · have hM := (o_if hM).1 c15
            refine lv_aload hx hb dX8_copy_44 (lv_at hl 0 rfl) ?_
            obtain ⟨y18, h19, hM⟩ := o_bd hM
            refine af_i (ws2 := (w_Tq_copy cI cJ cS q_t q_t_plan q_t_counter q_t_choices q_t_ringers q_t_readings q_t_sheets q_t_sh0 q_t_sh0_cells q_t_sh1 q_t_sh1_cells q_t_sh2 q_t_sh2_cells q_t_sh3 q_t_sh3_cells t_traced t_lastFault t_sh_lane t_sh_size t_sh_cells)) (va_runV (As := []) (rest := []) ⟨hx, hb, hml, hown, hts⟩ (c_Sh_hasNothing l D cI cJ cS q_t_sh1 q_t_sh1_cells (t_sh_lane 1) (t_sh_size 1) y18 h19 _) (cwV 0 hts gX8_copy_X6_hasNothing rfl rfl rfl (by decide +kernel) ⟨(Nat.le_of_ble_eq_true rfl), (Nat.le_of_ble_eq_true rfl)⟩) (pre_V hK hP hD [4] rfl rfl rfl rfl) rfl rfl hl.1 rfl (lv_room (Nat.le_of_ble_eq_true rfl)) dX8_copy_46 ⟨Nat.zero_le _, Nat.zero_le _⟩) hP hD hS hA [4] [0, 1, 2, 3, 5, 6, 7, 8, 9] [0, 1, 2, 3, 9, 4, 5, 6, 7, 8] rfl rfl rfl (by decide) rfl rfl (fun H locs hP hD hS => ?_)
            refine lv_if_eq (tgt := 58) hx hb dX8_copy_49 (by decide) (fun c20 => ?_) (fun c20 => ?_)
            · have hM := (o_if hM).1 c20
              refine lv_aload hx hb dX8_copy_58 (lv_at hl 0 rfl) ?_
              refine lv_aload hx hb dX8_copy_60 (lv_at hl 1 rfl) ?_
              refine va_getN (ci := 6) (v := .int (t_sh_lane 3)) (C := RX6) (T := TX6) (N := 3) (host := RX8) hx hb hts iX6 hown hK.1 hP 8 rfl rfl 1 (Nat.le_of_ble_eq_true rfl) (va_Nw.use rfl hK.2.2.2.2.2.2.2.2.2.2.2.2.2.2.2.2.2.1) (fun _ h9 => h9) rfl dX8_copy_62 ?_
              obtain ⟨y21, h22, hM⟩ := o_bd hM
              refine af_i (ws2 := (w_Tq_copy cI cJ cS q_t q_t_plan q_t_counter q_t_choices q_t_ringers q_t_readings q_t_sheets q_t_sh0 q_t_sh0_cells q_t_sh1 q_t_sh1_cells q_t_sh2 q_t_sh2_cells q_t_sh3 q_t_sh3_cells t_traced t_lastFault t_sh_lane t_sh_size t_sh_cells)) (va_runV (As := [.int (t_sh_lane 3)]) (rest := []) ⟨hx, hb, hml, hown, hts⟩ (c_Sh_isOfAnother l D cI cJ cS q_t_sh1 q_t_sh1_cells (t_sh_lane 1) (t_sh_size 1) (t_sh_lane 3) y21 h22 _) (cwV 1 hts gX8_copy_X6_isOfAnother rfl rfl rfl (by decide +kernel) ⟨(Nat.le_of_ble_eq_true rfl), (Nat.le_of_ble_eq_true rfl)⟩) (pre_V hK hP hD [4] rfl rfl rfl rfl) rfl rfl hl.1 rfl (lv_room (Nat.le_of_ble_eq_true rfl)) dX8_copy_65 ⟨Nat.zero_le _, Nat.zero_le _⟩) hP hD hS hA [4] [0, 1, 2, 3, 5, 6, 7, 8, 9] [0, 1, 2, 3, 9, 4, 5, 6, 7, 8] rfl rfl rfl (by decide) rfl rfl (fun H locs hP hD hS => ?_)
              refine lv_if_eq (tgt := 77) hx hb dX8_copy_68 (by decide) (fun c23 => ?_) (fun c23 => ?_)
              · have hM := (o_if hM).1 c23
                refine lv_aload hx hb dX8_copy_77 (lv_at hl 1 rfl) ?_
                refine lv_iload_n hx hb dX8_copy_79 rfl (lv_at hl 4 rfl) ?_
                refine lv_iload hx hb dX8_copy_80 (lv_at hl 7 rfl) ?_
                obtain ⟨y24, h25, hM⟩ := o_bd hM
                refine af_i (ws2 := (w_Tq_copy cI cJ cS q_t q_t_plan q_t_counter q_t_choices q_t_ringers q_t_readings q_t_sheets q_t_sh0 q_t_sh0_cells q_t_sh1 q_t_sh1_cells q_t_sh2 q_t_sh2_cells q_t_sh3 q_t_sh3_cells t_traced t_lastFault t_sh_lane t_sh_size t_sh_cells)) (va_runV (As := [.int p_i, .int p_n]) (rest := []) ⟨hx, hb, hml, hown, hts⟩ (c_Sh_holds l D cI cJ cS q_t_sh3 q_t_sh3_cells (t_sh_lane 3) (t_sh_size 3) p_i p_n y24 h25 _) (cwV 2 hts gX8_copy_X6_holds rfl rfl rfl (by decide +kernel) ⟨(Nat.le_of_ble_eq_true rfl), (Nat.le_of_ble_eq_true rfl)⟩) (pre_V hK hP hD [8] rfl rfl rfl rfl) rfl rfl hl.1 rfl (lv_room (Nat.le_of_ble_eq_true rfl)) dX8_copy_82 ⟨Nat.zero_le _, Nat.zero_le _⟩) hP hD hS hA [8] [0, 1, 2, 3, 4, 5, 6, 7, 9] [0, 1, 2, 3, 4, 5, 6, 7, 9, 8] rfl rfl rfl (by decide) rfl rfl (fun H locs hP hD hS => ?_)
                refine lv_if_eq (tgt := 100) hx hb dX8_copy_85 (by decide) (fun c26 => ?_) (fun c26 => ?_)
                · have hM := (o_if hM).1 c26
                  refine lv_aload_n hx hb dX8_copy_100 rfl (lv_at hl 2 rfl) ?_
                  refine lv_iconst (v := 3) hx hb dX8_copy_101 (by decide) ?_
                  obtain ⟨y27, h28, hM⟩ := o_bd hM
                  refine af_i (ws2 := (w_Tq_copy cI cJ cS q_t q_t_plan q_t_counter q_t_choices q_t_ringers q_t_readings q_t_sheets q_t_sh0 q_t_sh0_cells q_t_sh1 q_t_sh1_cells q_t_sh2 q_t_sh2_cells q_t_sh3 q_t_sh3_cells t_traced y27.2 t_sh_lane t_sh_size t_sh_cells)) (va_runV (As := [.int 3]) (rest := []) ⟨hx, hb, hml, hown, hts⟩ (c_Tq_faulted l D cI cJ cS q_t q_t_plan q_t_counter q_t_choices q_t_ringers q_t_readings q_t_sheets t_traced t_lastFault 3 y27 h28 _) (cwV 1 hts gX8_copy_X8_faulted rfl rfl rfl (by decide +kernel) ⟨(Nat.le_of_ble_eq_true rfl), (Nat.le_of_ble_eq_true rfl)⟩) (pre_V hK hP hD [0] rfl rfl rfl rfl) rfl rfl hl.1 rfl (lv_room (Nat.le_of_ble_eq_true rfl)) dX8_copy_102 ⟨Nat.zero_le _, Nat.zero_le _⟩) hP hD hS hA [0] [1, 2, 3, 4, 5, 6, 7, 8, 9] [9, 0, 1, 2, 3, 4, 5, 6, 7, 8] rfl rfl rfl (by decide) rfl rfl (fun H locs hP hD hS => ?_)
                  have hM := (Option.some.inj hM)
                  subst hM
                  exact rt_i hx hb hr hlocks hP hD hS dX8_copy_105
                · have hM := (o_if hM).2 c26
                  refine lv_aload hx hb dX8_copy_88 (lv_at hl 0 rfl) ?_
                  refine lv_iload hx hb dX8_copy_90 (lv_at hl 6 rfl) ?_
                  refine lv_iload hx hb dX8_copy_92 (lv_at hl 7 rfl) ?_
                  obtain ⟨y29, h30, hM⟩ := o_bd hM
                  refine af_i (ws2 := (w_Tq_copy cI cJ cS q_t q_t_plan q_t_counter q_t_choices q_t_ringers q_t_readings q_t_sheets q_t_sh0 q_t_sh0_cells q_t_sh1 q_t_sh1_cells q_t_sh2 q_t_sh2_cells q_t_sh3 q_t_sh3_cells t_traced t_lastFault t_sh_lane t_sh_size t_sh_cells)) (va_runV (As := [.int p_j, .int p_n]) (rest := []) ⟨hx, hb, hml, hown, hts⟩ (c_Sh_holds l D cI cJ cS q_t_sh1 q_t_sh1_cells (t_sh_lane 1) (t_sh_size 1) p_j p_n y29 h30 _) (cwV 2 hts gX8_copy_X6_holds rfl rfl rfl (by decide +kernel) ⟨(Nat.le_of_ble_eq_true rfl), (Nat.le_of_ble_eq_true rfl)⟩) (pre_V hK hP hD [4] rfl rfl rfl rfl) rfl rfl hl.1 rfl (lv_room (Nat.le_of_ble_eq_true rfl)) dX8_copy_94 ⟨Nat.zero_le _, Nat.zero_le _⟩) hP hD hS hA [4] [0, 1, 2, 3, 5, 6, 7, 8, 9] [0, 1, 2, 3, 9, 4, 5, 6, 7, 8] rfl rfl rfl (by decide) rfl rfl (fun H locs hP hD hS => ?_)
                  refine lv_if_ne (tgt := 106) hx hb dX8_copy_97 (by decide) (fun c31 => ?_) (fun c31 => ?_)
                  · have hM := (o_if hM).2 c31
                    refine lv_aload hx hb dX8_copy_106 (lv_at hl 1 rfl) ?_
                    refine va_getN (ci := 6) (v := .ref q_t_sh3_cells) (C := RX6) (T := TX6) (N := 3) (host := RX8) hx hb hts iX6 hown hK.1 hP 8 rfl rfl 0 (Nat.le_of_ble_eq_true rfl) (va_Nw.use rfl hK.2.2.2.2.2.2.2.2.2.2.2.2.2.2.2.2.2.2.1) (fun _ h9 => h9) rfl dX8_copy_108 ?_
                    refine lv_iload_n hx hb dX8_copy_111 rfl (lv_at hl 4 rfl) ?_
                    refine lv_aload hx hb dX8_copy_112 (lv_at hl 0 rfl) ?_
                    refine va_getN (ci := 6) (v := .ref q_t_sh1_cells) (C := RX6) (T := TX6) (N := 3) (host := RX8) hx hb hts iX6 hown hK.1 hP 4 rfl rfl 0 (Nat.le_of_ble_eq_true rfl) (va_Nw.use rfl hK.2.2.2.2.2.2.2.2.2.2.2.2.2.2.2.2.2.2.1) (fun _ h9 => h9) rfl dX8_copy_114 ?_
                    refine lv_iload hx hb dX8_copy_117 (lv_at hl 6 rfl) ?_
                    refine lv_iload hx hb dX8_copy_119 (lv_at hl 7 rfl) ?_
                    obtain ⟨h32, hM⟩ := o_gd hM
                    obtain ⟨h33, hM⟩ := o_gd hM
                    obtain ⟨h34, hM⟩ := o_gd hM
                    obtain ⟨h35, hM⟩ := o_gd hM
                    obtain ⟨h36, hM⟩ := o_gd hM
                    refine va_copyi hx hb (by rw [hml]; exact hl.1.symm) hown k1 k2 k3 k4 hK.1 hP hD hS 9 5 0 0 rfl rfl rfl rfl rfl h32 h33 h34 h35 h36 (fun _ _ => rfl) (Nat.le_of_ble_eq_true rfl) (Nat.le_of_ble_eq_true rfl) dX8_copy_121 (fun H locs hP hD hS => ?_)
                    have hP : va_P D vwCl (w_Tq_copy cI cJ cS q_t q_t_plan q_t_counter q_t_choices q_t_ringers q_t_readings q_t_sheets q_t_sh0 q_t_sh0_cells q_t_sh1 q_t_sh1_cells q_t_sh2 q_t_sh2_cells q_t_sh3 q_t_sh3_cells t_traced t_lastFault t_sh_lane t_sh_size (va_up t_sh_cells 1 (va_cpy (t_sh_cells 3) (t_sh_cells 1) p_i.toNatClampNeg p_j.toNatClampNeg p_n.toNatClampNeg))) H := hP
                    have hD : va_D A (w_Tq_copy cI cJ cS q_t q_t_plan q_t_counter q_t_choices q_t_ringers q_t_readings q_t_sheets q_t_sh0 q_t_sh0_cells q_t_sh1 q_t_sh1_cells q_t_sh2 q_t_sh2_cells q_t_sh3 q_t_sh3_cells t_traced t_lastFault t_sh_lane t_sh_size (va_up t_sh_cells 1 (va_cpy (t_sh_cells 3) (t_sh_cells 1) p_i.toNatClampNeg p_j.toNatClampNeg p_n.toNatClampNeg))) := hD
                    refine lv_aload_n hx hb dX8_copy_124 rfl (lv_at hl 2 rfl) ?_
                    refine lv_iload hx hb dX8_copy_125 (lv_at hl 7 rfl) ?_
                    obtain ⟨y37, h38, hM⟩ := o_bd hM
                    refine af_i (ws2 := (w_Tq_copy cI cJ cS q_t q_t_plan q_t_counter q_t_choices q_t_ringers q_t_readings q_t_sheets q_t_sh0 q_t_sh0_cells q_t_sh1 q_t_sh1_cells q_t_sh2 q_t_sh2_cells q_t_sh3 q_t_sh3_cells t_traced y37.2 t_sh_lane t_sh_size (va_up t_sh_cells 1 (va_cpy (t_sh_cells 3) (t_sh_cells 1) p_i.toNatClampNeg p_j.toNatClampNeg p_n.toNatClampNeg)))) (va_runV (As := [.int p_n]) (rest := []) ⟨hx, hb, hml, hown, hts⟩ (c_Tq_faultless l D cI cJ cS q_t q_t_plan q_t_counter q_t_choices q_t_ringers q_t_readings q_t_sheets t_traced t_lastFault p_n y37 h38 _) (cwV 1 hts gX8_copy_X8_faultless rfl rfl rfl (by decide +kernel) ⟨(Nat.le_of_ble_eq_true rfl), (Nat.le_of_ble_eq_true rfl)⟩) (pre_V hK hP hD [0] rfl rfl rfl rfl) rfl rfl hl.1 rfl (lv_room (Nat.le_of_ble_eq_true rfl)) dX8_copy_127 ⟨Nat.zero_le _, Nat.zero_le _⟩) hP hD hS hA [0] [1, 2, 3, 4, 5, 6, 7, 8, 9] [9, 0, 1, 2, 3, 4, 5, 6, 7, 8] rfl rfl rfl (by decide) rfl rfl (fun H locs hP hD hS => ?_)
                    have hM := (Option.some.inj hM)
                    subst hM
                    exact rt_i hx hb hr hlocks hP hD hS dX8_copy_130
                  · have hM := (o_if hM).1 c31
                    refine lv_aload_n hx hb dX8_copy_100 rfl (lv_at hl 2 rfl) ?_
                    refine lv_iconst (v := 3) hx hb dX8_copy_101 (by decide) ?_
                    obtain ⟨y39, h40, hM⟩ := o_bd hM
                    refine af_i (ws2 := (w_Tq_copy cI cJ cS q_t q_t_plan q_t_counter q_t_choices q_t_ringers q_t_readings q_t_sheets q_t_sh0 q_t_sh0_cells q_t_sh1 q_t_sh1_cells q_t_sh2 q_t_sh2_cells q_t_sh3 q_t_sh3_cells t_traced y39.2 t_sh_lane t_sh_size t_sh_cells)) (va_runV (As := [.int 3]) (rest := []) ⟨hx, hb, hml, hown, hts⟩ (c_Tq_faulted l D cI cJ cS q_t q_t_plan q_t_counter q_t_choices q_t_ringers q_t_readings q_t_sheets t_traced t_lastFault 3 y39 h40 _) (cwV 1 hts gX8_copy_X8_faulted rfl rfl rfl (by decide +kernel) ⟨(Nat.le_of_ble_eq_true rfl), (Nat.le_of_ble_eq_true rfl)⟩) (pre_V hK hP hD [0] rfl rfl rfl rfl) rfl rfl hl.1 rfl (lv_room (Nat.le_of_ble_eq_true rfl)) dX8_copy_102 ⟨Nat.zero_le _, Nat.zero_le _⟩) hP hD hS hA [0] [1, 2, 3, 4, 5, 6, 7, 8, 9] [9, 0, 1, 2, 3, 4, 5, 6, 7, 8] rfl rfl rfl (by decide) rfl rfl (fun H locs hP hD hS => ?_)
                    have hM := (Option.some.inj hM)
                    subst hM
                    exact rt_i hx hb hr hlocks hP hD hS dX8_copy_105
              · have hM := (o_if hM).2 c23
                refine lv_aload_n hx hb dX8_copy_71 rfl (lv_at hl 2 rfl) ?_
                refine lv_iconst (v := 2) hx hb dX8_copy_72 (by decide) ?_
                obtain ⟨y41, h42, hM⟩ := o_bd hM
                refine af_i (ws2 := (w_Tq_copy cI cJ cS q_t q_t_plan q_t_counter q_t_choices q_t_ringers q_t_readings q_t_sheets q_t_sh0 q_t_sh0_cells q_t_sh1 q_t_sh1_cells q_t_sh2 q_t_sh2_cells q_t_sh3 q_t_sh3_cells t_traced y41.2 t_sh_lane t_sh_size t_sh_cells)) (va_runV (As := [.int 2]) (rest := []) ⟨hx, hb, hml, hown, hts⟩ (c_Tq_faulted l D cI cJ cS q_t q_t_plan q_t_counter q_t_choices q_t_ringers q_t_readings q_t_sheets t_traced t_lastFault 2 y41 h42 _) (cwV 1 hts gX8_copy_X8_faulted rfl rfl rfl (by decide +kernel) ⟨(Nat.le_of_ble_eq_true rfl), (Nat.le_of_ble_eq_true rfl)⟩) (pre_V hK hP hD [0] rfl rfl rfl rfl) rfl rfl hl.1 rfl (lv_room (Nat.le_of_ble_eq_true rfl)) dX8_copy_73 ⟨Nat.zero_le _, Nat.zero_le _⟩) hP hD hS hA [0] [1, 2, 3, 4, 5, 6, 7, 8, 9] [9, 0, 1, 2, 3, 4, 5, 6, 7, 8] rfl rfl rfl (by decide) rfl rfl (fun H locs hP hD hS => ?_)
                have hM := (Option.some.inj hM)
                subst hM
                exact rt_i hx hb hr hlocks hP hD hS dX8_copy_76
            · have hM := (o_if hM).2 c20
              refine lv_aload_n hx hb dX8_copy_52 rfl (lv_at hl 2 rfl) ?_
              refine lv_iconst (v := 1) hx hb dX8_copy_53 (by decide) ?_
              obtain ⟨y43, h44, hM⟩ := o_bd hM
              refine af_i (ws2 := (w_Tq_copy cI cJ cS q_t q_t_plan q_t_counter q_t_choices q_t_ringers q_t_readings q_t_sheets q_t_sh0 q_t_sh0_cells q_t_sh1 q_t_sh1_cells q_t_sh2 q_t_sh2_cells q_t_sh3 q_t_sh3_cells t_traced y43.2 t_sh_lane t_sh_size t_sh_cells)) (va_runV (As := [.int 1]) (rest := []) ⟨hx, hb, hml, hown, hts⟩ (c_Tq_faulted l D cI cJ cS q_t q_t_plan q_t_counter q_t_choices q_t_ringers q_t_readings q_t_sheets t_traced t_lastFault 1 y43 h44 _) (cwV 1 hts gX8_copy_X8_faulted rfl rfl rfl (by decide +kernel) ⟨(Nat.le_of_ble_eq_true rfl), (Nat.le_of_ble_eq_true rfl)⟩) (pre_V hK hP hD [0] rfl rfl rfl rfl) rfl rfl hl.1 rfl (lv_room (Nat.le_of_ble_eq_true rfl)) dX8_copy_54 ⟨Nat.zero_le _, Nat.zero_le _⟩) hP hD hS hA [0] [1, 2, 3, 4, 5, 6, 7, 8, 9] [9, 0, 1, 2, 3, 4, 5, 6, 7, 8] rfl rfl rfl (by decide) rfl rfl (fun H locs hP hD hS => ?_)
              have hM := (Option.some.inj hM)
              subst hM
              exact rt_i hx hb hr hlocks hP hD hS dX8_copy_57
        · refine W.eq (g2 := F0 m 34 ls [.ref q_t_sh2]) rfl ?_
          refine lv_astore (lv' := [(7, .ref q_t_sh2), (6, .ref q_t_sh3), (0, .ref q_t), (1, .int p_k), (2, .int p_i), (3, .int p_other), (4, .int p_j), (5, .int p_n)]) hx hb dX8_copy_34 hl (Nat.le_of_ble_eq_true rfl) rfl (fun ls hl => ?_)
          refine lv_aload hx hb dX8_copy_36 (lv_at hl 1 rfl) ?_
          obtain ⟨y13, h14, hM⟩ := o_bd hM
          refine af_i (ws2 := (w_Tq_copy cI cJ cS q_t q_t_plan q_t_counter q_t_choices q_t_ringers q_t_readings q_t_sheets q_t_sh0 q_t_sh0_cells q_t_sh1 q_t_sh1_cells q_t_sh2 q_t_sh2_cells q_t_sh3 q_t_sh3_cells t_traced t_lastFault t_sh_lane t_sh_size t_sh_cells)) (va_runV (As := []) (rest := []) ⟨hx, hb, hml, hown, hts⟩ (c_Sh_hasNothing l D cI cJ cS q_t_sh3 q_t_sh3_cells (t_sh_lane 3) (t_sh_size 3) y13 h14 _) (cwV 0 hts gX8_copy_X6_hasNothing rfl rfl rfl (by decide +kernel) ⟨(Nat.le_of_ble_eq_true rfl), (Nat.le_of_ble_eq_true rfl)⟩) (pre_V hK hP hD [8] rfl rfl rfl rfl) rfl rfl hl.1 rfl (lv_room (Nat.le_of_ble_eq_true rfl)) dX8_copy_38 ⟨Nat.zero_le _, Nat.zero_le _⟩) hP hD hS hA [8] [0, 1, 2, 3, 4, 5, 6, 7, 9] [0, 1, 2, 3, 4, 5, 6, 7, 9, 8] rfl rfl rfl (by decide) rfl rfl (fun H locs hP hD hS => ?_)
          refine lv_if_ne (tgt := 52) hx hb dX8_copy_41 (by decide) (fun c15 => ?_) (fun c15 => ?_)
          · have hM := (o_if hM).2 c15
            refine lv_aload_n hx hb dX8_copy_52 rfl (lv_at hl 2 rfl) ?_
            refine lv_iconst (v := 1) hx hb dX8_copy_53 (by decide) ?_
            obtain ⟨y16, h17, hM⟩ := o_bd hM
            refine af_i (ws2 := (w_Tq_copy cI cJ cS q_t q_t_plan q_t_counter q_t_choices q_t_ringers q_t_readings q_t_sheets q_t_sh0 q_t_sh0_cells q_t_sh1 q_t_sh1_cells q_t_sh2 q_t_sh2_cells q_t_sh3 q_t_sh3_cells t_traced y16.2 t_sh_lane t_sh_size t_sh_cells)) (va_runV (As := [.int 1]) (rest := []) ⟨hx, hb, hml, hown, hts⟩ (c_Tq_faulted l D cI cJ cS q_t q_t_plan q_t_counter q_t_choices q_t_ringers q_t_readings q_t_sheets t_traced t_lastFault 1 y16 h17 _) (cwV 1 hts gX8_copy_X8_faulted rfl rfl rfl (by decide +kernel) ⟨(Nat.le_of_ble_eq_true rfl), (Nat.le_of_ble_eq_true rfl)⟩) (pre_V hK hP hD [0] rfl rfl rfl rfl) rfl rfl hl.1 rfl (lv_room (Nat.le_of_ble_eq_true rfl)) dX8_copy_54 ⟨Nat.zero_le _, Nat.zero_le _⟩) hP hD hS hA [0] [1, 2, 3, 4, 5, 6, 7, 8, 9] [9, 0, 1, 2, 3, 4, 5, 6, 7, 8] rfl rfl rfl (by decide) rfl rfl (fun H locs hP hD hS => ?_)
            have hM := (Option.some.inj hM)
            subst hM
            exact rt_i hx hb hr hlocks hP hD hS dX8_copy_57
          · have hM := (o_if hM).1 c15
            refine lv_aload hx hb dX8_copy_44 (lv_at hl 0 rfl) ?_
            obtain ⟨y18, h19, hM⟩ := o_bd hM
            refine af_i (ws2 := (w_Tq_copy cI cJ cS q_t q_t_plan q_t_counter q_t_choices q_t_ringers q_t_readings q_t_sheets q_t_sh0 q_t_sh0_cells q_t_sh1 q_t_sh1_cells q_t_sh2 q_t_sh2_cells q_t_sh3 q_t_sh3_cells t_traced t_lastFault t_sh_lane t_sh_size t_sh_cells)) (va_runV (As := []) (rest := []) ⟨hx, hb, hml, hown, hts⟩ (c_Sh_hasNothing l D cI cJ cS q_t_sh2 q_t_sh2_cells (t_sh_lane 2) (t_sh_size 2) y18 h19 _) (cwV 0 hts gX8_copy_X6_hasNothing rfl rfl rfl (by decide +kernel) ⟨(Nat.le_of_ble_eq_true rfl), (Nat.le_of_ble_eq_true rfl)⟩) (pre_V hK hP hD [6] rfl rfl rfl rfl) rfl rfl hl.1 rfl (lv_room (Nat.le_of_ble_eq_true rfl)) dX8_copy_46 ⟨Nat.zero_le _, Nat.zero_le _⟩) hP hD hS hA [6] [0, 1, 2, 3, 4, 5, 7, 8, 9] [0, 1, 2, 3, 4, 5, 9, 6, 7, 8] rfl rfl rfl (by decide) rfl rfl (fun H locs hP hD hS => ?_)
            refine lv_if_eq (tgt := 58) hx hb dX8_copy_49 (by decide) (fun c20 => ?_) (fun c20 => ?_)
            · have hM := (o_if hM).1 c20
              refine lv_aload hx hb dX8_copy_58 (lv_at hl 0 rfl) ?_
              refine lv_aload hx hb dX8_copy_60 (lv_at hl 1 rfl) ?_
              refine va_getN (ci := 6) (v := .int (t_sh_lane 3)) (C := RX6) (T := TX6) (N := 3) (host := RX8) hx hb hts iX6 hown hK.1 hP 8 rfl rfl 1 (Nat.le_of_ble_eq_true rfl) (va_Nw.use rfl hK.2.2.2.2.2.2.2.2.2.2.2.2.2.2.2.2.2.1) (fun _ h9 => h9) rfl dX8_copy_62 ?_
              obtain ⟨y21, h22, hM⟩ := o_bd hM
              refine af_i (ws2 := (w_Tq_copy cI cJ cS q_t q_t_plan q_t_counter q_t_choices q_t_ringers q_t_readings q_t_sheets q_t_sh0 q_t_sh0_cells q_t_sh1 q_t_sh1_cells q_t_sh2 q_t_sh2_cells q_t_sh3 q_t_sh3_cells t_traced t_lastFault t_sh_lane t_sh_size t_sh_cells)) (va_runV (As := [.int (t_sh_lane 3)]) (rest := []) ⟨hx, hb, hml, hown, hts⟩ (c_Sh_isOfAnother l D cI cJ cS q_t_sh2 q_t_sh2_cells (t_sh_lane 2) (t_sh_size 2) (t_sh_lane 3) y21 h22 _) (cwV 1 hts gX8_copy_X6_isOfAnother rfl rfl rfl (by decide +kernel) ⟨(Nat.le_of_ble_eq_true rfl), (Nat.le_of_ble_eq_true rfl)⟩) (pre_V hK hP hD [6] rfl rfl rfl rfl) rfl rfl hl.1 rfl (lv_room (Nat.le_of_ble_eq_true rfl)) dX8_copy_65 ⟨Nat.zero_le _, Nat.zero_le _⟩) hP hD hS hA [6] [0, 1, 2, 3, 4, 5, 7, 8, 9] [0, 1, 2, 3, 4, 5, 9, 6, 7, 8] rfl rfl rfl (by decide) rfl rfl (fun H locs hP hD hS => ?_)
              refine lv_if_eq (tgt := 77) hx hb dX8_copy_68 (by decide) (fun c23 => ?_) (fun c23 => ?_)
              · have hM := (o_if hM).1 c23
                refine lv_aload hx hb dX8_copy_77 (lv_at hl 1 rfl) ?_
                refine lv_iload_n hx hb dX8_copy_79 rfl (lv_at hl 4 rfl) ?_
                refine lv_iload hx hb dX8_copy_80 (lv_at hl 7 rfl) ?_
                obtain ⟨y24, h25, hM⟩ := o_bd hM
                refine af_i (ws2 := (w_Tq_copy cI cJ cS q_t q_t_plan q_t_counter q_t_choices q_t_ringers q_t_readings q_t_sheets q_t_sh0 q_t_sh0_cells q_t_sh1 q_t_sh1_cells q_t_sh2 q_t_sh2_cells q_t_sh3 q_t_sh3_cells t_traced t_lastFault t_sh_lane t_sh_size t_sh_cells)) (va_runV (As := [.int p_i, .int p_n]) (rest := []) ⟨hx, hb, hml, hown, hts⟩ (c_Sh_holds l D cI cJ cS q_t_sh3 q_t_sh3_cells (t_sh_lane 3) (t_sh_size 3) p_i p_n y24 h25 _) (cwV 2 hts gX8_copy_X6_holds rfl rfl rfl (by decide +kernel) ⟨(Nat.le_of_ble_eq_true rfl), (Nat.le_of_ble_eq_true rfl)⟩) (pre_V hK hP hD [8] rfl rfl rfl rfl) rfl rfl hl.1 rfl (lv_room (Nat.le_of_ble_eq_true rfl)) dX8_copy_82 ⟨Nat.zero_le _, Nat.zero_le _⟩) hP hD hS hA [8] [0, 1, 2, 3, 4, 5, 6, 7, 9] [0, 1, 2, 3, 4, 5, 6, 7, 9, 8] rfl rfl rfl (by decide) rfl rfl (fun H locs hP hD hS => ?_)
                refine lv_if_eq (tgt := 100) hx hb dX8_copy_85 (by decide) (fun c26 => ?_) (fun c26 => ?_)
                · have hM := (o_if hM).1 c26
                  refine lv_aload_n hx hb dX8_copy_100 rfl (lv_at hl 2 rfl) ?_
                  refine lv_iconst (v := 3) hx hb dX8_copy_101 (by decide) ?_
                  obtain ⟨y27, h28, hM⟩ := o_bd hM
                  refine af_i (ws2 := (w_Tq_copy cI cJ cS q_t q_t_plan q_t_counter q_t_choices q_t_ringers q_t_readings q_t_sheets q_t_sh0 q_t_sh0_cells q_t_sh1 q_t_sh1_cells q_t_sh2 q_t_sh2_cells q_t_sh3 q_t_sh3_cells t_traced y27.2 t_sh_lane t_sh_size t_sh_cells)) (va_runV (As := [.int 3]) (rest := []) ⟨hx, hb, hml, hown, hts⟩ (c_Tq_faulted l D cI cJ cS q_t q_t_plan q_t_counter q_t_choices q_t_ringers q_t_readings q_t_sheets t_traced t_lastFault 3 y27 h28 _) (cwV 1 hts gX8_copy_X8_faulted rfl rfl rfl (by decide +kernel) ⟨(Nat.le_of_ble_eq_true rfl), (Nat.le_of_ble_eq_true rfl)⟩) (pre_V hK hP hD [0] rfl rfl rfl rfl) rfl rfl hl.1 rfl (lv_room (Nat.le_of_ble_eq_true rfl)) dX8_copy_102 ⟨Nat.zero_le _, Nat.zero_le _⟩) hP hD hS hA [0] [1, 2, 3, 4, 5, 6, 7, 8, 9] [9, 0, 1, 2, 3, 4, 5, 6, 7, 8] rfl rfl rfl (by decide) rfl rfl (fun H locs hP hD hS => ?_)
                  have hM := (Option.some.inj hM)
                  subst hM
                  exact rt_i hx hb hr hlocks hP hD hS dX8_copy_105
                · have hM := (o_if hM).2 c26
                  refine lv_aload hx hb dX8_copy_88 (lv_at hl 0 rfl) ?_
                  refine lv_iload hx hb dX8_copy_90 (lv_at hl 6 rfl) ?_
                  refine lv_iload hx hb dX8_copy_92 (lv_at hl 7 rfl) ?_
                  obtain ⟨y29, h30, hM⟩ := o_bd hM
                  refine af_i (ws2 := (w_Tq_copy cI cJ cS q_t q_t_plan q_t_counter q_t_choices q_t_ringers q_t_readings q_t_sheets q_t_sh0 q_t_sh0_cells q_t_sh1 q_t_sh1_cells q_t_sh2 q_t_sh2_cells q_t_sh3 q_t_sh3_cells t_traced t_lastFault t_sh_lane t_sh_size t_sh_cells)) (va_runV (As := [.int p_j, .int p_n]) (rest := []) ⟨hx, hb, hml, hown, hts⟩ (c_Sh_holds l D cI cJ cS q_t_sh2 q_t_sh2_cells (t_sh_lane 2) (t_sh_size 2) p_j p_n y29 h30 _) (cwV 2 hts gX8_copy_X6_holds rfl rfl rfl (by decide +kernel) ⟨(Nat.le_of_ble_eq_true rfl), (Nat.le_of_ble_eq_true rfl)⟩) (pre_V hK hP hD [6] rfl rfl rfl rfl) rfl rfl hl.1 rfl (lv_room (Nat.le_of_ble_eq_true rfl)) dX8_copy_94 ⟨Nat.zero_le _, Nat.zero_le _⟩) hP hD hS hA [6] [0, 1, 2, 3, 4, 5, 7, 8, 9] [0, 1, 2, 3, 4, 5, 9, 6, 7, 8] rfl rfl rfl (by decide) rfl rfl (fun H locs hP hD hS => ?_)
                  refine lv_if_ne (tgt := 106) hx hb dX8_copy_97 (by decide) (fun c31 => ?_) (fun c31 => ?_)
                  · have hM := (o_if hM).2 c31
                    refine lv_aload hx hb dX8_copy_106 (lv_at hl 1 rfl) ?_
                    refine va_getN (ci := 6) (v := .ref q_t_sh3_cells) (C := RX6) (T := TX6) (N := 3) (host := RX8) hx hb hts iX6 hown hK.1 hP 8 rfl rfl 0 (Nat.le_of_ble_eq_true rfl) (va_Nw.use rfl hK.2.2.2.2.2.2.2.2.2.2.2.2.2.2.2.2.2.2.1) (fun _ h9 => h9) rfl dX8_copy_108 ?_
                    refine lv_iload_n hx hb dX8_copy_111 rfl (lv_at hl 4 rfl) ?_
                    refine lv_aload hx hb dX8_copy_112 (lv_at hl 0 rfl) ?_
                    refine va_getN (ci := 6) (v := .ref q_t_sh2_cells) (C := RX6) (T := TX6) (N := 3) (host := RX8) hx hb hts iX6 hown hK.1 hP 6 rfl rfl 0 (Nat.le_of_ble_eq_true rfl) (va_Nw.use rfl hK.2.2.2.2.2.2.2.2.2.2.2.2.2.2.2.2.2.2.1) (fun _ h9 => h9) rfl dX8_copy_114 ?_
                    refine lv_iload hx hb dX8_copy_117 (lv_at hl 6 rfl) ?_
                    refine lv_iload hx hb dX8_copy_119 (lv_at hl 7 rfl) ?_
                    obtain ⟨h32, hM⟩ := o_gd hM
                    obtain ⟨h33, hM⟩ := o_gd hM
                    obtain ⟨h34, hM⟩ := o_gd hM
                    obtain ⟨h35, hM⟩ := o_gd hM
                    obtain ⟨h36, hM⟩ := o_gd hM
                    refine va_copyi hx hb (by rw [hml]; exact hl.1.symm) hown k1 k2 k3 k4 hK.1 hP hD hS 9 7 0 0 rfl rfl rfl rfl rfl h32 h33 h34 h35 h36 (fun _ _ => rfl) (Nat.le_of_ble_eq_true rfl) (Nat.le_of_ble_eq_true rfl) dX8_copy_121 (fun H locs hP hD hS => ?_)
                    have hP : va_P D vwCl (w_Tq_copy cI cJ cS q_t q_t_plan q_t_counter q_t_choices q_t_ringers q_t_readings q_t_sheets q_t_sh0 q_t_sh0_cells q_t_sh1 q_t_sh1_cells q_t_sh2 q_t_sh2_cells q_t_sh3 q_t_sh3_cells t_traced t_lastFault t_sh_lane t_sh_size (va_up t_sh_cells 2 (va_cpy (t_sh_cells 3) (t_sh_cells 2) p_i.toNatClampNeg p_j.toNatClampNeg p_n.toNatClampNeg))) H := hP
                    have hD : va_D A (w_Tq_copy cI cJ cS q_t q_t_plan q_t_counter q_t_choices q_t_ringers q_t_readings q_t_sheets q_t_sh0 q_t_sh0_cells q_t_sh1 q_t_sh1_cells q_t_sh2 q_t_sh2_cells q_t_sh3 q_t_sh3_cells t_traced t_lastFault t_sh_lane t_sh_size (va_up t_sh_cells 2 (va_cpy (t_sh_cells 3) (t_sh_cells 2) p_i.toNatClampNeg p_j.toNatClampNeg p_n.toNatClampNeg))) := hD
                    refine lv_aload_n hx hb dX8_copy_124 rfl (lv_at hl 2 rfl) ?_
                    refine lv_iload hx hb dX8_copy_125 (lv_at hl 7 rfl) ?_
                    obtain ⟨y37, h38, hM⟩ := o_bd hM
                    refine af_i (ws2 := (w_Tq_copy cI cJ cS q_t q_t_plan q_t_counter q_t_choices q_t_ringers q_t_readings q_t_sheets q_t_sh0 q_t_sh0_cells q_t_sh1 q_t_sh1_cells q_t_sh2 q_t_sh2_cells q_t_sh3 q_t_sh3_cells t_traced y37.2 t_sh_lane t_sh_size (va_up t_sh_cells 2 (va_cpy (t_sh_cells 3) (t_sh_cells 2) p_i.toNatClampNeg p_j.toNatClampNeg p_n.toNatClampNeg)))) (va_runV (As := [.int p_n]) (rest := []) ⟨hx, hb, hml, hown, hts⟩ (c_Tq_faultless l D cI cJ cS q_t q_t_plan q_t_counter q_t_choices q_t_ringers q_t_readings q_t_sheets t_traced t_lastFault p_n y37 h38 _) (cwV 1 hts gX8_copy_X8_faultless rfl rfl rfl (by decide +kernel) ⟨(Nat.le_of_ble_eq_true rfl), (Nat.le_of_ble_eq_true rfl)⟩) (pre_V hK hP hD [0] rfl rfl rfl rfl) rfl rfl hl.1 rfl (lv_room (Nat.le_of_ble_eq_true rfl)) dX8_copy_127 ⟨Nat.zero_le _, Nat.zero_le _⟩) hP hD hS hA [0] [1, 2, 3, 4, 5, 6, 7, 8, 9] [9, 0, 1, 2, 3, 4, 5, 6, 7, 8] rfl rfl rfl (by decide) rfl rfl (fun H locs hP hD hS => ?_)
                    have hM := (Option.some.inj hM)
                    subst hM
                    exact rt_i hx hb hr hlocks hP hD hS dX8_copy_130
                  · have hM := (o_if hM).1 c31
                    refine lv_aload_n hx hb dX8_copy_100 rfl (lv_at hl 2 rfl) ?_
                    refine lv_iconst (v := 3) hx hb dX8_copy_101 (by decide) ?_
                    obtain ⟨y39, h40, hM⟩ := o_bd hM
                    refine af_i (ws2 := (w_Tq_copy cI cJ cS q_t q_t_plan q_t_counter q_t_choices q_t_ringers q_t_readings q_t_sheets q_t_sh0 q_t_sh0_cells q_t_sh1 q_t_sh1_cells q_t_sh2 q_t_sh2_cells q_t_sh3 q_t_sh3_cells t_traced y39.2 t_sh_lane t_sh_size t_sh_cells)) (va_runV (As := [.int 3]) (rest := []) ⟨hx, hb, hml, hown, hts⟩ (c_Tq_faulted l D cI cJ cS q_t q_t_plan q_t_counter q_t_choices q_t_ringers q_t_readings q_t_sheets t_traced t_lastFault 3 y39 h40 _) (cwV 1 hts gX8_copy_X8_faulted rfl rfl rfl (by decide +kernel) ⟨(Nat.le_of_ble_eq_true rfl), (Nat.le_of_ble_eq_true rfl)⟩) (pre_V hK hP hD [0] rfl rfl rfl rfl) rfl rfl hl.1 rfl (lv_room (Nat.le_of_ble_eq_true rfl)) dX8_copy_102 ⟨Nat.zero_le _, Nat.zero_le _⟩) hP hD hS hA [0] [1, 2, 3, 4, 5, 6, 7, 8, 9] [9, 0, 1, 2, 3, 4, 5, 6, 7, 8] rfl rfl rfl (by decide) rfl rfl (fun H locs hP hD hS => ?_)
                    have hM := (Option.some.inj hM)
                    subst hM
                    exact rt_i hx hb hr hlocks hP hD hS dX8_copy_105
              · have hM := (o_if hM).2 c23
                refine lv_aload_n hx hb dX8_copy_71 rfl (lv_at hl 2 rfl) ?_
                refine lv_iconst (v := 2) hx hb dX8_copy_72 (by decide) ?_
                obtain ⟨y41, h42, hM⟩ := o_bd hM
                refine af_i (ws2 := (w_Tq_copy cI cJ cS q_t q_t_plan q_t_counter q_t_choices q_t_ringers q_t_readings q_t_sheets q_t_sh0 q_t_sh0_cells q_t_sh1 q_t_sh1_cells q_t_sh2 q_t_sh2_cells q_t_sh3 q_t_sh3_cells t_traced y41.2 t_sh_lane t_sh_size t_sh_cells)) (va_runV (As := [.int 2]) (rest := []) ⟨hx, hb, hml, hown, hts⟩ (c_Tq_faulted l D cI cJ cS q_t q_t_plan q_t_counter q_t_choices q_t_ringers q_t_readings q_t_sheets t_traced t_lastFault 2 y41 h42 _) (cwV 1 hts gX8_copy_X8_faulted rfl rfl rfl (by decide +kernel) ⟨(Nat.le_of_ble_eq_true rfl), (Nat.le_of_ble_eq_true rfl)⟩) (pre_V hK hP hD [0] rfl rfl rfl rfl) rfl rfl hl.1 rfl (lv_room (Nat.le_of_ble_eq_true rfl)) dX8_copy_73 ⟨Nat.zero_le _, Nat.zero_le _⟩) hP hD hS hA [0] [1, 2, 3, 4, 5, 6, 7, 8, 9] [9, 0, 1, 2, 3, 4, 5, 6, 7, 8] rfl rfl rfl (by decide) rfl rfl (fun H locs hP hD hS => ?_)
                have hM := (Option.some.inj hM)
                subst hM
                exact rt_i hx hb hr hlocks hP hD hS dX8_copy_76
            · have hM := (o_if hM).2 c20
              refine lv_aload_n hx hb dX8_copy_52 rfl (lv_at hl 2 rfl) ?_
              refine lv_iconst (v := 1) hx hb dX8_copy_53 (by decide) ?_
              obtain ⟨y43, h44, hM⟩ := o_bd hM
              refine af_i (ws2 := (w_Tq_copy cI cJ cS q_t q_t_plan q_t_counter q_t_choices q_t_ringers q_t_readings q_t_sheets q_t_sh0 q_t_sh0_cells q_t_sh1 q_t_sh1_cells q_t_sh2 q_t_sh2_cells q_t_sh3 q_t_sh3_cells t_traced y43.2 t_sh_lane t_sh_size t_sh_cells)) (va_runV (As := [.int 1]) (rest := []) ⟨hx, hb, hml, hown, hts⟩ (c_Tq_faulted l D cI cJ cS q_t q_t_plan q_t_counter q_t_choices q_t_ringers q_t_readings q_t_sheets t_traced t_lastFault 1 y43 h44 _) (cwV 1 hts gX8_copy_X8_faulted rfl rfl rfl (by decide +kernel) ⟨(Nat.le_of_ble_eq_true rfl), (Nat.le_of_ble_eq_true rfl)⟩) (pre_V hK hP hD [0] rfl rfl rfl rfl) rfl rfl hl.1 rfl (lv_room (Nat.le_of_ble_eq_true rfl)) dX8_copy_54 ⟨Nat.zero_le _, Nat.zero_le _⟩) hP hD hS hA [0] [1, 2, 3, 4, 5, 6, 7, 8, 9] [9, 0, 1, 2, 3, 4, 5, 6, 7, 8] rfl rfl rfl (by decide) rfl rfl (fun H locs hP hD hS => ?_)
              have hM := (Option.some.inj hM)
              subst hM
              exact rt_i hx hb hr hlocks hP hD hS dX8_copy_57
        · refine W.eq (g2 := F0 m 34 ls [.ref q_t_sh3]) rfl ?_
          refine lv_astore (lv' := [(7, .ref q_t_sh3), (6, .ref q_t_sh3), (0, .ref q_t), (1, .int p_k), (2, .int p_i), (3, .int p_other), (4, .int p_j), (5, .int p_n)]) hx hb dX8_copy_34 hl (Nat.le_of_ble_eq_true rfl) rfl (fun ls hl => ?_)
          refine lv_aload hx hb dX8_copy_36 (lv_at hl 1 rfl) ?_
          obtain ⟨y13, h14, hM⟩ := o_bd hM
          refine af_i (ws2 := (w_Tq_copy cI cJ cS q_t q_t_plan q_t_counter q_t_choices q_t_ringers q_t_readings q_t_sheets q_t_sh0 q_t_sh0_cells q_t_sh1 q_t_sh1_cells q_t_sh2 q_t_sh2_cells q_t_sh3 q_t_sh3_cells t_traced t_lastFault t_sh_lane t_sh_size t_sh_cells)) (va_runV (As := []) (rest := []) ⟨hx, hb, hml, hown, hts⟩ (c_Sh_hasNothing l D cI cJ cS q_t_sh3 q_t_sh3_cells (t_sh_lane 3) (t_sh_size 3) y13 h14 _) (cwV 0 hts gX8_copy_X6_hasNothing rfl rfl rfl (by decide +kernel) ⟨(Nat.le_of_ble_eq_true rfl), (Nat.le_of_ble_eq_true rfl)⟩) (pre_V hK hP hD [8] rfl rfl rfl rfl) rfl rfl hl.1 rfl (lv_room (Nat.le_of_ble_eq_true rfl)) dX8_copy_38 ⟨Nat.zero_le _, Nat.zero_le _⟩) hP hD hS hA [8] [0, 1, 2, 3, 4, 5, 6, 7, 9] [0, 1, 2, 3, 4, 5, 6, 7, 9, 8] rfl rfl rfl (by decide) rfl rfl (fun H locs hP hD hS => ?_)
          refine lv_if_ne (tgt := 52) hx hb dX8_copy_41 (by decide) (fun c15 => ?_) (fun c15 => ?_)
          · have hM := (o_if hM).2 c15
            refine lv_aload_n hx hb dX8_copy_52 rfl (lv_at hl 2 rfl) ?_
            refine lv_iconst (v := 1) hx hb dX8_copy_53 (by decide) ?_
            obtain ⟨y16, h17, hM⟩ := o_bd hM
            refine af_i (ws2 := (w_Tq_copy cI cJ cS q_t q_t_plan q_t_counter q_t_choices q_t_ringers q_t_readings q_t_sheets q_t_sh0 q_t_sh0_cells q_t_sh1 q_t_sh1_cells q_t_sh2 q_t_sh2_cells q_t_sh3 q_t_sh3_cells t_traced y16.2 t_sh_lane t_sh_size t_sh_cells)) (va_runV (As := [.int 1]) (rest := []) ⟨hx, hb, hml, hown, hts⟩ (c_Tq_faulted l D cI cJ cS q_t q_t_plan q_t_counter q_t_choices q_t_ringers q_t_readings q_t_sheets t_traced t_lastFault 1 y16 h17 _) (cwV 1 hts gX8_copy_X8_faulted rfl rfl rfl (by decide +kernel) ⟨(Nat.le_of_ble_eq_true rfl), (Nat.le_of_ble_eq_true rfl)⟩) (pre_V hK hP hD [0] rfl rfl rfl rfl) rfl rfl hl.1 rfl (lv_room (Nat.le_of_ble_eq_true rfl)) dX8_copy_54 ⟨Nat.zero_le _, Nat.zero_le _⟩) hP hD hS hA [0] [1, 2, 3, 4, 5, 6, 7, 8, 9] [9, 0, 1, 2, 3, 4, 5, 6, 7, 8] rfl rfl rfl (by decide) rfl rfl (fun H locs hP hD hS => ?_)
            have hM := (Option.some.inj hM)
            subst hM
            exact rt_i hx hb hr hlocks hP hD hS dX8_copy_57
          · have hM := (o_if hM).1 c15
            refine lv_aload hx hb dX8_copy_44 (lv_at hl 0 rfl) ?_
            obtain ⟨y18, h19, hM⟩ := o_bd hM
            refine af_i (ws2 := (w_Tq_copy cI cJ cS q_t q_t_plan q_t_counter q_t_choices q_t_ringers q_t_readings q_t_sheets q_t_sh0 q_t_sh0_cells q_t_sh1 q_t_sh1_cells q_t_sh2 q_t_sh2_cells q_t_sh3 q_t_sh3_cells t_traced t_lastFault t_sh_lane t_sh_size t_sh_cells)) (va_runV (As := []) (rest := []) ⟨hx, hb, hml, hown, hts⟩ (c_Sh_hasNothing l D cI cJ cS q_t_sh3 q_t_sh3_cells (t_sh_lane 3) (t_sh_size 3) y18 h19 _) (cwV 0 hts gX8_copy_X6_hasNothing rfl rfl rfl (by decide +kernel) ⟨(Nat.le_of_ble_eq_true rfl), (Nat.le_of_ble_eq_true rfl)⟩) (pre_V hK hP hD [8] rfl rfl rfl rfl) rfl rfl hl.1 rfl (lv_room (Nat.le_of_ble_eq_true rfl)) dX8_copy_46 ⟨Nat.zero_le _, Nat.zero_le _⟩) hP hD hS hA [8] [0, 1, 2, 3, 4, 5, 6, 7, 9] [0, 1, 2, 3, 4, 5, 6, 7, 9, 8] rfl rfl rfl (by decide) rfl rfl (fun H locs hP hD hS => ?_)
            refine lv_if_eq (tgt := 58) hx hb dX8_copy_49 (by decide) (fun c20 => ?_) (fun c20 => ?_)
            · have hM := (o_if hM).1 c20
              refine lv_aload hx hb dX8_copy_58 (lv_at hl 0 rfl) ?_
              refine lv_aload hx hb dX8_copy_60 (lv_at hl 1 rfl) ?_
              refine va_getN (ci := 6) (v := .int (t_sh_lane 3)) (C := RX6) (T := TX6) (N := 3) (host := RX8) hx hb hts iX6 hown hK.1 hP 8 rfl rfl 1 (Nat.le_of_ble_eq_true rfl) (va_Nw.use rfl hK.2.2.2.2.2.2.2.2.2.2.2.2.2.2.2.2.2.1) (fun _ h9 => h9) rfl dX8_copy_62 ?_
              obtain ⟨y21, h22, hM⟩ := o_bd hM
              refine af_i (ws2 := (w_Tq_copy cI cJ cS q_t q_t_plan q_t_counter q_t_choices q_t_ringers q_t_readings q_t_sheets q_t_sh0 q_t_sh0_cells q_t_sh1 q_t_sh1_cells q_t_sh2 q_t_sh2_cells q_t_sh3 q_t_sh3_cells t_traced t_lastFault t_sh_lane t_sh_size t_sh_cells)) (va_runV (As := [.int (t_sh_lane 3)]) (rest := []) ⟨hx, hb, hml, hown, hts⟩ (c_Sh_isOfAnother l D cI cJ cS q_t_sh3 q_t_sh3_cells (t_sh_lane 3) (t_sh_size 3) (t_sh_lane 3) y21 h22 _) (cwV 1 hts gX8_copy_X6_isOfAnother rfl rfl rfl (by decide +kernel) ⟨(Nat.le_of_ble_eq_true rfl), (Nat.le_of_ble_eq_true rfl)⟩) (pre_V hK hP hD [8] rfl rfl rfl rfl) rfl rfl hl.1 rfl (lv_room (Nat.le_of_ble_eq_true rfl)) dX8_copy_65 ⟨Nat.zero_le _, Nat.zero_le _⟩) hP hD hS hA [8] [0, 1, 2, 3, 4, 5, 6, 7, 9] [0, 1, 2, 3, 4, 5, 6, 7, 9, 8] rfl rfl rfl (by decide) rfl rfl (fun H locs hP hD hS => ?_)
              refine lv_if_eq (tgt := 77) hx hb dX8_copy_68 (by decide) (fun c23 => ?_) (fun c23 => ?_)
              · have hM := (o_if hM).1 c23
                refine lv_aload hx hb dX8_copy_77 (lv_at hl 1 rfl) ?_
                refine lv_iload_n hx hb dX8_copy_79 rfl (lv_at hl 4 rfl) ?_
                refine lv_iload hx hb dX8_copy_80 (lv_at hl 7 rfl) ?_
                obtain ⟨y24, h25, hM⟩ := o_bd hM
                refine af_i (ws2 := (w_Tq_copy cI cJ cS q_t q_t_plan q_t_counter q_t_choices q_t_ringers q_t_readings q_t_sheets q_t_sh0 q_t_sh0_cells q_t_sh1 q_t_sh1_cells q_t_sh2 q_t_sh2_cells q_t_sh3 q_t_sh3_cells t_traced t_lastFault t_sh_lane t_sh_size t_sh_cells)) (va_runV (As := [.int p_i, .int p_n]) (rest := []) ⟨hx, hb, hml, hown, hts⟩ (c_Sh_holds l D cI cJ cS q_t_sh3 q_t_sh3_cells (t_sh_lane 3) (t_sh_size 3) p_i p_n y24 h25 _) (cwV 2 hts gX8_copy_X6_holds rfl rfl rfl (by decide +kernel) ⟨(Nat.le_of_ble_eq_true rfl), (Nat.le_of_ble_eq_true rfl)⟩) (pre_V hK hP hD [8] rfl rfl rfl rfl) rfl rfl hl.1 rfl (lv_room (Nat.le_of_ble_eq_true rfl)) dX8_copy_82 ⟨Nat.zero_le _, Nat.zero_le _⟩) hP hD hS hA [8] [0, 1, 2, 3, 4, 5, 6, 7, 9] [0, 1, 2, 3, 4, 5, 6, 7, 9, 8] rfl rfl rfl (by decide) rfl rfl (fun H locs hP hD hS => ?_)
                refine lv_if_eq (tgt := 100) hx hb dX8_copy_85 (by decide) (fun c26 => ?_) (fun c26 => ?_)
                · have hM := (o_if hM).1 c26
                  refine lv_aload_n hx hb dX8_copy_100 rfl (lv_at hl 2 rfl) ?_
                  refine lv_iconst (v := 3) hx hb dX8_copy_101 (by decide) ?_
                  obtain ⟨y27, h28, hM⟩ := o_bd hM
                  refine af_i (ws2 := (w_Tq_copy cI cJ cS q_t q_t_plan q_t_counter q_t_choices q_t_ringers q_t_readings q_t_sheets q_t_sh0 q_t_sh0_cells q_t_sh1 q_t_sh1_cells q_t_sh2 q_t_sh2_cells q_t_sh3 q_t_sh3_cells t_traced y27.2 t_sh_lane t_sh_size t_sh_cells)) (va_runV (As := [.int 3]) (rest := []) ⟨hx, hb, hml, hown, hts⟩ (c_Tq_faulted l D cI cJ cS q_t q_t_plan q_t_counter q_t_choices q_t_ringers q_t_readings q_t_sheets t_traced t_lastFault 3 y27 h28 _) (cwV 1 hts gX8_copy_X8_faulted rfl rfl rfl (by decide +kernel) ⟨(Nat.le_of_ble_eq_true rfl), (Nat.le_of_ble_eq_true rfl)⟩) (pre_V hK hP hD [0] rfl rfl rfl rfl) rfl rfl hl.1 rfl (lv_room (Nat.le_of_ble_eq_true rfl)) dX8_copy_102 ⟨Nat.zero_le _, Nat.zero_le _⟩) hP hD hS hA [0] [1, 2, 3, 4, 5, 6, 7, 8, 9] [9, 0, 1, 2, 3, 4, 5, 6, 7, 8] rfl rfl rfl (by decide) rfl rfl (fun H locs hP hD hS => ?_)
                  have hM := (Option.some.inj hM)
                  subst hM
                  exact rt_i hx hb hr hlocks hP hD hS dX8_copy_105
                · have hM := (o_if hM).2 c26
                  refine lv_aload hx hb dX8_copy_88 (lv_at hl 0 rfl) ?_
                  refine lv_iload hx hb dX8_copy_90 (lv_at hl 6 rfl) ?_
                  refine lv_iload hx hb dX8_copy_92 (lv_at hl 7 rfl) ?_
                  obtain ⟨y29, h30, hM⟩ := o_bd hM
                  refine af_i (ws2 := (w_Tq_copy cI cJ cS q_t q_t_plan q_t_counter q_t_choices q_t_ringers q_t_readings q_t_sheets q_t_sh0 q_t_sh0_cells q_t_sh1 q_t_sh1_cells q_t_sh2 q_t_sh2_cells q_t_sh3 q_t_sh3_cells t_traced t_lastFault t_sh_lane t_sh_size t_sh_cells)) (va_runV (As := [.int p_j, .int p_n]) (rest := []) ⟨hx, hb, hml, hown, hts⟩ (c_Sh_holds l D cI cJ cS q_t_sh3 q_t_sh3_cells (t_sh_lane 3) (t_sh_size 3) p_j p_n y29 h30 _) (cwV 2 hts gX8_copy_X6_holds rfl rfl rfl (by decide +kernel) ⟨(Nat.le_of_ble_eq_true rfl), (Nat.le_of_ble_eq_true rfl)⟩) (pre_V hK hP hD [8] rfl rfl rfl rfl) rfl rfl hl.1 rfl (lv_room (Nat.le_of_ble_eq_true rfl)) dX8_copy_94 ⟨Nat.zero_le _, Nat.zero_le _⟩) hP hD hS hA [8] [0, 1, 2, 3, 4, 5, 6, 7, 9] [0, 1, 2, 3, 4, 5, 6, 7, 9, 8] rfl rfl rfl (by decide) rfl rfl (fun H locs hP hD hS => ?_)
                  refine lv_if_ne (tgt := 106) hx hb dX8_copy_97 (by decide) (fun c31 => ?_) (fun c31 => ?_)
                  · have hM := (o_if hM).2 c31
                    refine lv_aload hx hb dX8_copy_106 (lv_at hl 1 rfl) ?_
                    refine va_getN (ci := 6) (v := .ref q_t_sh3_cells) (C := RX6) (T := TX6) (N := 3) (host := RX8) hx hb hts iX6 hown hK.1 hP 8 rfl rfl 0 (Nat.le_of_ble_eq_true rfl) (va_Nw.use rfl hK.2.2.2.2.2.2.2.2.2.2.2.2.2.2.2.2.2.2.1) (fun _ h9 => h9) rfl dX8_copy_108 ?_
                    refine lv_iload_n hx hb dX8_copy_111 rfl (lv_at hl 4 rfl) ?_
                    refine lv_aload hx hb dX8_copy_112 (lv_at hl 0 rfl) ?_
                    refine va_getN (ci := 6) (v := .ref q_t_sh3_cells) (C := RX6) (T := TX6) (N := 3) (host := RX8) hx hb hts iX6 hown hK.1 hP 8 rfl rfl 0 (Nat.le_of_ble_eq_true rfl) (va_Nw.use rfl hK.2.2.2.2.2.2.2.2.2.2.2.2.2.2.2.2.2.2.1) (fun _ h9 => h9) rfl dX8_copy_114 ?_
                    refine lv_iload hx hb dX8_copy_117 (lv_at hl 6 rfl) ?_
                    refine lv_iload hx hb dX8_copy_119 (lv_at hl 7 rfl) ?_
                    obtain ⟨h32, hM⟩ := o_gd hM
                    obtain ⟨h33, hM⟩ := o_gd hM
                    obtain ⟨h34, hM⟩ := o_gd hM
                    obtain ⟨h35, hM⟩ := o_gd hM
                    obtain ⟨h36, hM⟩ := o_gd hM
                    refine va_copyi hx hb (by rw [hml]; exact hl.1.symm) hown k1 k2 k3 k4 hK.1 hP hD hS 9 9 0 0 rfl rfl rfl rfl rfl h32 h33 h34 h35 h36 (fun _ _ => rfl) (Nat.le_of_ble_eq_true rfl) (Nat.le_of_ble_eq_true rfl) dX8_copy_121 (fun H locs hP hD hS => ?_)
                    have hP : va_P D vwCl (w_Tq_copy cI cJ cS q_t q_t_plan q_t_counter q_t_choices q_t_ringers q_t_readings q_t_sheets q_t_sh0 q_t_sh0_cells q_t_sh1 q_t_sh1_cells q_t_sh2 q_t_sh2_cells q_t_sh3 q_t_sh3_cells t_traced t_lastFault t_sh_lane t_sh_size (va_up t_sh_cells 3 (va_cpy (t_sh_cells 3) (t_sh_cells 3) p_i.toNatClampNeg p_j.toNatClampNeg p_n.toNatClampNeg))) H := hP
                    have hD : va_D A (w_Tq_copy cI cJ cS q_t q_t_plan q_t_counter q_t_choices q_t_ringers q_t_readings q_t_sheets q_t_sh0 q_t_sh0_cells q_t_sh1 q_t_sh1_cells q_t_sh2 q_t_sh2_cells q_t_sh3 q_t_sh3_cells t_traced t_lastFault t_sh_lane t_sh_size (va_up t_sh_cells 3 (va_cpy (t_sh_cells 3) (t_sh_cells 3) p_i.toNatClampNeg p_j.toNatClampNeg p_n.toNatClampNeg))) := hD
                    refine lv_aload_n hx hb dX8_copy_124 rfl (lv_at hl 2 rfl) ?_
                    refine lv_iload hx hb dX8_copy_125 (lv_at hl 7 rfl) ?_
                    obtain ⟨y37, h38, hM⟩ := o_bd hM
                    refine af_i (ws2 := (w_Tq_copy cI cJ cS q_t q_t_plan q_t_counter q_t_choices q_t_ringers q_t_readings q_t_sheets q_t_sh0 q_t_sh0_cells q_t_sh1 q_t_sh1_cells q_t_sh2 q_t_sh2_cells q_t_sh3 q_t_sh3_cells t_traced y37.2 t_sh_lane t_sh_size (va_up t_sh_cells 3 (va_cpy (t_sh_cells 3) (t_sh_cells 3) p_i.toNatClampNeg p_j.toNatClampNeg p_n.toNatClampNeg)))) (va_runV (As := [.int p_n]) (rest := []) ⟨hx, hb, hml, hown, hts⟩ (c_Tq_faultless l D cI cJ cS q_t q_t_plan q_t_counter q_t_choices q_t_ringers q_t_readings q_t_sheets t_traced t_lastFault p_n y37 h38 _) (cwV 1 hts gX8_copy_X8_faultless rfl rfl rfl (by decide +kernel) ⟨(Nat.le_of_ble_eq_true rfl), (Nat.le_of_ble_eq_true rfl)⟩) (pre_V hK hP hD [0] rfl rfl rfl rfl) rfl rfl hl.1 rfl (lv_room (Nat.le_of_ble_eq_true rfl)) dX8_copy_127 ⟨Nat.zero_le _, Nat.zero_le _⟩) hP hD hS hA [0] [1, 2, 3, 4, 5, 6, 7, 8, 9] [9, 0, 1, 2, 3, 4, 5, 6, 7, 8] rfl rfl rfl (by decide) rfl rfl (fun H locs hP hD hS => ?_)
                    have hM := (Option.some.inj hM)
                    subst hM
                    exact rt_i hx hb hr hlocks hP hD hS dX8_copy_130
                  · have hM := (o_if hM).1 c31
                    refine lv_aload_n hx hb dX8_copy_100 rfl (lv_at hl 2 rfl) ?_
                    refine lv_iconst (v := 3) hx hb dX8_copy_101 (by decide) ?_
                    obtain ⟨y39, h40, hM⟩ := o_bd hM
                    refine af_i (ws2 := (w_Tq_copy cI cJ cS q_t q_t_plan q_t_counter q_t_choices q_t_ringers q_t_readings q_t_sheets q_t_sh0 q_t_sh0_cells q_t_sh1 q_t_sh1_cells q_t_sh2 q_t_sh2_cells q_t_sh3 q_t_sh3_cells t_traced y39.2 t_sh_lane t_sh_size t_sh_cells)) (va_runV (As := [.int 3]) (rest := []) ⟨hx, hb, hml, hown, hts⟩ (c_Tq_faulted l D cI cJ cS q_t q_t_plan q_t_counter q_t_choices q_t_ringers q_t_readings q_t_sheets t_traced t_lastFault 3 y39 h40 _) (cwV 1 hts gX8_copy_X8_faulted rfl rfl rfl (by decide +kernel) ⟨(Nat.le_of_ble_eq_true rfl), (Nat.le_of_ble_eq_true rfl)⟩) (pre_V hK hP hD [0] rfl rfl rfl rfl) rfl rfl hl.1 rfl (lv_room (Nat.le_of_ble_eq_true rfl)) dX8_copy_102 ⟨Nat.zero_le _, Nat.zero_le _⟩) hP hD hS hA [0] [1, 2, 3, 4, 5, 6, 7, 8, 9] [9, 0, 1, 2, 3, 4, 5, 6, 7, 8] rfl rfl rfl (by decide) rfl rfl (fun H locs hP hD hS => ?_)
                    have hM := (Option.some.inj hM)
                    subst hM
                    exact rt_i hx hb hr hlocks hP hD hS dX8_copy_105
              · have hM := (o_if hM).2 c23
                refine lv_aload_n hx hb dX8_copy_71 rfl (lv_at hl 2 rfl) ?_
                refine lv_iconst (v := 2) hx hb dX8_copy_72 (by decide) ?_
                obtain ⟨y41, h42, hM⟩ := o_bd hM
                refine af_i (ws2 := (w_Tq_copy cI cJ cS q_t q_t_plan q_t_counter q_t_choices q_t_ringers q_t_readings q_t_sheets q_t_sh0 q_t_sh0_cells q_t_sh1 q_t_sh1_cells q_t_sh2 q_t_sh2_cells q_t_sh3 q_t_sh3_cells t_traced y41.2 t_sh_lane t_sh_size t_sh_cells)) (va_runV (As := [.int 2]) (rest := []) ⟨hx, hb, hml, hown, hts⟩ (c_Tq_faulted l D cI cJ cS q_t q_t_plan q_t_counter q_t_choices q_t_ringers q_t_readings q_t_sheets t_traced t_lastFault 2 y41 h42 _) (cwV 1 hts gX8_copy_X8_faulted rfl rfl rfl (by decide +kernel) ⟨(Nat.le_of_ble_eq_true rfl), (Nat.le_of_ble_eq_true rfl)⟩) (pre_V hK hP hD [0] rfl rfl rfl rfl) rfl rfl hl.1 rfl (lv_room (Nat.le_of_ble_eq_true rfl)) dX8_copy_73 ⟨Nat.zero_le _, Nat.zero_le _⟩) hP hD hS hA [0] [1, 2, 3, 4, 5, 6, 7, 8, 9] [9, 0, 1, 2, 3, 4, 5, 6, 7, 8] rfl rfl rfl (by decide) rfl rfl (fun H locs hP hD hS => ?_)
                have hM := (Option.some.inj hM)
                subst hM
                exact rt_i hx hb hr hlocks hP hD hS dX8_copy_76
            · have hM := (o_if hM).2 c20
              refine lv_aload_n hx hb dX8_copy_52 rfl (lv_at hl 2 rfl) ?_
              refine lv_iconst (v := 1) hx hb dX8_copy_53 (by decide) ?_
              obtain ⟨y43, h44, hM⟩ := o_bd hM
              refine af_i (ws2 := (w_Tq_copy cI cJ cS q_t q_t_plan q_t_counter q_t_choices q_t_ringers q_t_readings q_t_sheets q_t_sh0 q_t_sh0_cells q_t_sh1 q_t_sh1_cells q_t_sh2 q_t_sh2_cells q_t_sh3 q_t_sh3_cells t_traced y43.2 t_sh_lane t_sh_size t_sh_cells)) (va_runV (As := [.int 1]) (rest := []) ⟨hx, hb, hml, hown, hts⟩ (c_Tq_faulted l D cI cJ cS q_t q_t_plan q_t_counter q_t_choices q_t_ringers q_t_readings q_t_sheets t_traced t_lastFault 1 y43 h44 _) (cwV 1 hts gX8_copy_X8_faulted rfl rfl rfl (by decide +kernel) ⟨(Nat.le_of_ble_eq_true rfl), (Nat.le_of_ble_eq_true rfl)⟩) (pre_V hK hP hD [0] rfl rfl rfl rfl) rfl rfl hl.1 rfl (lv_room (Nat.le_of_ble_eq_true rfl)) dX8_copy_54 ⟨Nat.zero_le _, Nat.zero_le _⟩) hP hD hS hA [0] [1, 2, 3, 4, 5, 6, 7, 8, 9] [9, 0, 1, 2, 3, 4, 5, 6, 7, 8] rfl rfl rfl (by decide) rfl rfl (fun H locs hP hD hS => ?_)
              have hM := (Option.some.inj hM)
              subst hM
              exact rt_i hx hb hr hlocks hP hD hS dX8_copy_57
    · have hM := (o_if hM).1 c8
      refine lv_aload_n hx hb dX8_copy_14 rfl (lv_at hl 0 rfl) ?_
      refine lv_iconst (v := (-1)) hx hb dX8_copy_15 (by decide) ?_
      obtain ⟨y45, h46, hM⟩ := o_bd hM
      refine af_i (ws2 := (w_Tq_copy cI cJ cS q_t q_t_plan q_t_counter q_t_choices q_t_ringers q_t_readings q_t_sheets q_t_sh0 q_t_sh0_cells q_t_sh1 q_t_sh1_cells q_t_sh2 q_t_sh2_cells q_t_sh3 q_t_sh3_cells t_traced y45.2 t_sh_lane t_sh_size t_sh_cells)) (va_runV (As := [.int (-1)]) (rest := []) ⟨hx, hb, hml, hown, hts⟩ (c_Tq_faultless l D cI cJ cS q_t q_t_plan q_t_counter q_t_choices q_t_ringers q_t_readings q_t_sheets t_traced t_lastFault (-1) y45 h46 _) (cwV 1 hts gX8_copy_X8_faultless rfl rfl rfl (by decide +kernel) ⟨(Nat.le_of_ble_eq_true rfl), (Nat.le_of_ble_eq_true rfl)⟩) (pre_V hK hP hD [0] rfl rfl rfl rfl) rfl rfl hl.1 rfl (lv_room (Nat.le_of_ble_eq_true rfl)) dX8_copy_16 ⟨Nat.zero_le _, Nat.zero_le _⟩) hP hD hS hA [0] [1, 2, 3, 4, 5, 6, 7, 8, 9] [9, 0, 1, 2, 3, 4, 5, 6, 7, 8] rfl rfl rfl (by decide) rfl rfl (fun H locs hP hD hS => ?_)
      have hM := (Option.some.inj hM)
      subst hM
      exact rt_i hx hb hr hlocks hP hD hS dX8_copy_19

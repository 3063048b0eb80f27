/-! ===== TurnQueue.faultless ===== -/
abbrev w_Tq_faultless (cI cJ cS : ClassId) (q_t : Nat) (q_t_plan : Nat) (q_t_counter : Nat) (q_t_choices : Nat) (q_t_ringers : Nat) (q_t_readings : Nat) (q_t_sheets : Nat) (t_traced : Int32) (t_lastFault : Int32) : va_W := [(q_t, .inr (7, [.ref q_t_plan, .ref q_t_counter, .ref q_t_choices, .ref q_t_ringers, .ref q_t_readings, .ref q_t_sheets, .int t_traced, .int t_lastFault]))]
abbrev rm_Tq_faultless : Room := { frames := 0, cells := 0, slots := 0, locals := 0 }
noncomputable def Tq_faultless (p_answer : Int32) (t_lastFault : Int32) : Option (Int32 × Int32) :=
  some (p_answer, 0)
set_option maxRecDepth 100000 in
set_option maxHeartbeats 4000000 in
theorem c_Tq_faultless (l : Launch) (D : va_G) (cI cJ cS : ClassId) (q_t q_t_plan q_t_counter q_t_choices q_t_ringers q_t_readings q_t_sheets : Nat) (t_traced : Int32) (t_lastFault : Int32) (p_answer : Int32) (o : Int32 × Int32) (hM : Tq_faultless p_answer t_lastFault = some o) : Ci l yX8_faultless wsX8_faultless rm_Tq_faultless D cI cJ cS [.ref q_t, .int p_answer] (w_Tq_faultless cI cJ cS q_t q_t_plan q_t_counter q_t_choices q_t_ringers q_t_readings q_t_sheets t_traced t_lastFault) (w_Tq_faultless cI cJ cS q_t q_t_plan q_t_counter q_t_choices q_t_ringers q_t_readings q_t_sheets t_traced o.2) o.1 := by
  refine Ci.of (cc := cX8_faultless) (maxL := 2) (ret := (some .int)) (by decide) rfl (Nat.le_of_ble_eq_true rfl) ?_
  intro p e s m args below meth c A ls hE
  obtain ⟨hx, hb, hr, hml, hown, hts, hlocks, hK, hA, hP, hD, hS, hl⟩ := hE
  have hown : s.vm.findClass RX8 = some m.cls := hown
  have hl : lv_has ls 2 [(0, .ref q_t), (1, .int p_answer)] := hl
  have iX8 : ∀ w ∈ u_ws RX8 TX8 8, w ∈ wsX8_faultless := by decide +kernel
  have k0 := hts (.fieldLink RX8 56 "TurnQueue" "lastFault" "I") (by decide +kernel)
  unfold Tq_faultless at hM
  refine lv_aload_n hx hb dX8_faultless_0 rfl (lv_at hl 0 rfl) ?_
  refine lv_iconst (v := 0) hx hb dX8_faultless_1 (by decide) ?_
  refine va_put (ci := 7) (v := .int 0) (ty := .int) (C := RX8) (T := TX8) (N := 8) hx hb hts iX8 tyX8 tyX8_ok nmX8 hown hK.1 hP hD hS 0 rfl rfl 7 (Nat.le_of_ble_eq_true rfl) k0 (fun _ h9 => h9) rfl (tyX8_ok 7 (Nat.le_of_ble_eq_true rfl)) rfl rfl (Nat.le_of_ble_eq_true rfl) dX8_faultless_2 (fun H locs hP hD hS => ?_)
  have hP : va_P D vwCl (w_Tq_faultless cI cJ cS q_t q_t_plan q_t_counter q_t_choices q_t_ringers q_t_readings q_t_sheets t_traced 0) H := hP
  have hD : va_D A (w_Tq_faultless cI cJ cS q_t q_t_plan q_t_counter q_t_choices q_t_ringers q_t_readings q_t_sheets t_traced 0) := hD
  refine lv_iload_n hx hb dX8_faultless_5 rfl (lv_at hl 1 rfl) ?_
  have hM := (Option.some.inj hM)
  subst hM
  exact rt_i hx hb hr hlocks hP hD hS dX8_faultless_6
/-! ===== TurnQueue.faulted ===== -/
abbrev w_Tq_faulted (cI cJ cS : ClassId) (q_t : Nat) (q_t_plan : Nat) (q_t_counter : Nat) (q_t_choices : Nat) (q_t_ringers : Nat) (q_t_readings : Nat) (q_t_sheets : Nat) (t_traced : Int32) (t_lastFault : Int32) : va_W := [(q_t, .inr (7, [.ref q_t_plan, .ref q_t_counter, .ref q_t_choices, .ref q_t_ringers, .ref q_t_readings, .ref q_t_sheets, .int t_traced, .int t_lastFault]))]
abbrev rm_Tq_faulted : Room := { frames := 0, cells := 0, slots := 0, locals := 0 }
noncomputable def Tq_faulted (p_fault : Int32) (t_lastFault : Int32) : Option (Int32 × Int32) :=
  some ((-10) - p_fault, p_fault)
set_option maxRecDepth 100000 in
set_option maxHeartbeats 4000000 in
theorem c_Tq_faulted (l : Launch) (D : va_G) (cI cJ cS : ClassId) (q_t q_t_plan q_t_counter q_t_choices q_t_ringers q_t_readings q_t_sheets : Nat) (t_traced : Int32) (t_lastFault : Int32) (p_fault : Int32) (o : Int32 × Int32) (hM : Tq_faulted p_fault t_lastFault = some o) : Ci l yX8_faulted wsX8_faulted rm_Tq_faulted D cI cJ cS [.ref q_t, .int p_fault] (w_Tq_faulted cI cJ cS q_t q_t_plan q_t_counter q_t_choices q_t_ringers q_t_readings q_t_sheets t_traced t_lastFault) (w_Tq_faulted cI cJ cS q_t q_t_plan q_t_counter q_t_choices q_t_ringers q_t_readings q_t_sheets t_traced o.2) o.1 := by
  refine Ci.of (cc := cX8_faulted) (maxL := 2) (ret := (some .int)) (by decide) rfl (Nat.le_of_ble_eq_true rfl) ?_
  intro p e s m args below meth c A ls hE
  obtain ⟨hx, hb, hr, hml, hown, hts, hlocks, hK, hA, hP, hD, hS, hl⟩ := hE
  have hown : s.vm.findClass RX8 = some m.cls := hown
  have hl : lv_has ls 2 [(0, .ref q_t), (1, .int p_fault)] := hl
  have iX8 : ∀ w ∈ u_ws RX8 TX8 8, w ∈ wsX8_faulted := by decide +kernel
  have k0 := hts (.fieldLink RX8 56 "TurnQueue" "lastFault" "I") (by decide +kernel)
  unfold Tq_faulted at hM
  refine lv_aload_n hx hb dX8_faulted_0 rfl (lv_at hl 0 rfl) ?_
  refine lv_iload_n hx hb dX8_faulted_1 rfl (lv_at hl 1 rfl) ?_
  refine va_put (ci := 7) (v := .int p_fault) (ty := .int) (C := RX8) (T := TX8) (N := 8) hx hb hts iX8 tyX8 tyX8_ok nmX8 hown hK.1 hP hD hS 0 rfl rfl 7 (Nat.le_of_ble_eq_true rfl) k0 (fun _ h9 => h9) rfl (tyX8_ok 7 (Nat.le_of_ble_eq_true rfl)) rfl rfl (Nat.le_of_ble_eq_true rfl) dX8_faulted_2 (fun H locs hP hD hS => ?_)
  have hP : va_P D vwCl (w_Tq_faulted cI cJ cS q_t q_t_plan q_t_counter q_t_choices q_t_ringers q_t_readings q_t_sheets t_traced p_fault) H := hP
  have hD : va_D A (w_Tq_faulted cI cJ cS q_t q_t_plan q_t_counter q_t_choices q_t_ringers q_t_readings q_t_sheets t_traced p_fault) := hD
  refine lv_bipush (v := (-10)) hx hb dX8_faulted_5 (by decide) ?_
  refine lv_iload_n hx hb dX8_faulted_7 rfl (lv_at hl 1 rfl) ?_
  refine lv_isub hx hb dX8_faulted_8 ?_
  have hM := (Option.some.inj hM)
  subst hM
  exact rt_i hx hb hr hlocks hP hD hS dX8_faulted_9
/-! ===== TurnQueue.ofPerson ===== -/
abbrev w_Tq_ofPerson (cI cJ cS : ClassId) (q_t : Nat) (q_t_plan : Nat) (q_t_counter : Nat) (q_t_choices : Nat) (q_t_ringers : Nat) (q_t_readings : Nat) (q_t_sheets : Nat) (q_t_plan_kinds : Nat) (q_t_plan_comes : Nat) (q_t_plan_wants : Nat) (q_t_plan_outs : Nat) (t_traced : Int32) (t_lastFault : Int32) (t_plan_law : Int32) (t_plan_count : Int32) (t_plan_bells : Int64) (t_plan_kinds : Nat → Int32) (t_plan_comes : Nat → Int32) (t_plan_wants : Nat → Int32) (t_plan_outs : Nat → Int32) : va_W := [(q_t, .inr (7, [.ref q_t_plan, .ref q_t_counter, .ref q_t_choices, .ref q_t_ringers, .ref q_t_readings, .ref q_t_sheets, .int t_traced, .int t_lastFault])), (q_t_plan, .inr (3, [.int t_plan_law, .int t_plan_count, .long t_plan_bells, .ref q_t_plan_kinds, .ref q_t_plan_comes, .ref q_t_plan_wants, .ref q_t_plan_outs])), (q_t_plan_kinds, ar cI 7 t_plan_kinds), (q_t_plan_comes, ar cI 7 t_plan_comes), (q_t_plan_wants, ar cI 7 t_plan_wants), (q_t_plan_outs, ar cI 7 t_plan_outs)]
abbrev rm_Tq_ofPerson : Room := { frames := 1, cells := 0, slots := 0, locals := 21 }
noncomputable def Tq_ofPerson (p_p : Int32) (p_what : Int32) (t_plan_count : Int32) (t_plan_kinds : Nat → Int32) (t_plan_comes : Nat → Int32) (t_plan_wants : Nat → Int32) (t_plan_outs : Nat → Int32) : Option (Int32) :=
  (Pl_has p_p t_plan_count).bind fun y1 =>
  if y1 = 0 then
    some (-1)
  else
    if p_what = 0 then
      if ck p_p 7 = true then
        some (t_plan_kinds p_p.toNatClampNeg)
      else none
    else
      if p_what = 1 then
        if ck p_p 7 = true then
          some (t_plan_comes p_p.toNatClampNeg)
        else none
      else
        if p_what = 2 then
          if ck p_p 7 = true then
            some (t_plan_wants p_p.toNatClampNeg)
          else none
        else
          if p_what = 3 then
            if ck p_p 7 = true then
              some (t_plan_outs p_p.toNatClampNeg)
            else none
          else
            some (-2)
set_option maxRecDepth 100000 in
set_option maxHeartbeats 4000000 in
theorem c_Tq_ofPerson (l : Launch) (D : va_G) (cI cJ cS : ClassId) (q_t q_t_plan q_t_counter q_t_choices q_t_ringers q_t_readings q_t_sheets q_t_plan_kinds q_t_plan_comes q_t_plan_wants q_t_plan_outs : Nat) (t_traced : Int32) (t_lastFault : Int32) (t_plan_law : Int32) (t_plan_count : Int32) (t_plan_bells : Int64) (t_plan_kinds : Nat → Int32) (t_plan_comes : Nat → Int32) (t_plan_wants : Nat → Int32) (t_plan_outs : Nat → Int32) (p_p : Int32) (p_what : Int32) (o : Int32) (hM : Tq_ofPerson p_p p_what t_plan_count t_plan_kinds t_plan_comes t_plan_wants t_plan_outs = some o) : Ci l yX8_ofPerson wsX8_ofPerson rm_Tq_ofPerson D cI cJ cS [.ref q_t, .int p_p, .int p_what] (w_Tq_ofPerson cI cJ cS q_t q_t_plan q_t_counter q_t_choices q_t_ringers q_t_readings q_t_sheets q_t_plan_kinds q_t_plan_comes q_t_plan_wants q_t_plan_outs t_traced t_lastFault t_plan_law t_plan_count t_plan_bells t_plan_kinds t_plan_comes t_plan_wants t_plan_outs) (w_Tq_ofPerson cI cJ cS q_t q_t_plan q_t_counter q_t_choices q_t_ringers q_t_readings q_t_sheets q_t_plan_kinds q_t_plan_comes q_t_plan_wants q_t_plan_outs t_traced t_lastFault t_plan_law t_plan_count t_plan_bells t_plan_kinds t_plan_comes t_plan_wants t_plan_outs) o := by
  refine Ci.of (cc := cX8_ofPerson) (maxL := 3) (ret := (some .int)) (by decide) rfl (Nat.le_of_ble_eq_true rfl) ?_
  intro p e s m args below meth c A ls hE
  obtain ⟨hx, hb, hr, hml, hown, hts, hlocks, hK, hA, hP, hD, hS, hl⟩ := hE
  have hown : s.vm.findClass RX8 = some m.cls := hown
  have hl : lv_has ls 3 [(0, .ref q_t), (1, .int p_p), (2, .int p_what)] := hl
  have iX8 : ∀ w ∈ u_ws RX8 TX8 8, w ∈ wsX8_ofPerson := by decide +kernel
  have iX3 : ∀ w ∈ u_ws RX3 TX3 7, w ∈ wsX8_ofPerson := by decide +kernel
  have k0 := hts (.fieldLink RX8 12 "TurnQueue" "plan" "LTurnQueue$Plan;") (by decide +kernel)
  have k1 := hts (.fieldLink RX8 102 "TurnQueue$Plan" "kinds" "[I") (by decide +kernel)
  have k2 := hts (.fieldLink RX8 106 "TurnQueue$Plan" "comes" "[I") (by decide +kernel)
  have k3 := hts (.fieldLink RX8 109 "TurnQueue$Plan" "wants" "[I") (by decide +kernel)
  have k4 := hts (.fieldLink RX8 112 "TurnQueue$Plan" "outs" "[I") (by decide +kernel)
  unfold Tq_ofPerson at hM
  refine lv_aload_n hx hb dX8_ofPerson_0 rfl (lv_at hl 0 rfl) ?_
  refine va_get (ci := 7) (v := .ref q_t_plan) (C := RX8) (T := TX8) (N := 8) hx hb hts iX8 hown hK.1 hP 0 rfl rfl 0 (Nat.le_of_ble_eq_true rfl) k0 (fun _ h9 => h9) rfl dX8_ofPerson_1 ?_
  refine lv_iload_n hx hb dX8_ofPerson_4 rfl (lv_at hl 1 rfl) ?_
  obtain ⟨y1, h2, hM⟩ := o_bd hM
  refine af_i (ws2 := (w_Tq_ofPerson cI cJ cS q_t q_t_plan q_t_counter q_t_choices q_t_ringers q_t_readings q_t_sheets q_t_plan_kinds q_t_plan_comes q_t_plan_wants q_t_plan_outs t_traced t_lastFault t_plan_law t_plan_count t_plan_bells t_plan_kinds t_plan_comes t_plan_wants t_plan_outs)) (va_runV (As := [.int p_p]) (rest := []) ⟨hx, hb, hml, hown, hts⟩ (c_Pl_has l D cI cJ cS q_t_plan q_t_plan_kinds q_t_plan_comes q_t_plan_wants q_t_plan_outs t_plan_law t_plan_count t_plan_bells p_p y1 h2 _) (cwV 1 hts gX8_ofPerson_X3_has rfl rfl rfl (by decide +kernel) ⟨(Nat.le_of_ble_eq_true rfl), (Nat.le_of_ble_eq_true rfl)⟩) (pre_V hK hP hD [1] rfl rfl rfl rfl) rfl rfl hl.1 rfl (lv_room (Nat.le_of_ble_eq_true rfl)) dX8_ofPerson_5 ⟨Nat.zero_le _, Nat.zero_le _⟩) hP hD hS hA [1] [0, 2, 3, 4, 5] [0, 5, 1, 2, 3, 4] rfl rfl rfl (by decide) rfl rfl (fun H locs hP hD hS => ?_)
  refine lv_if_ne (tgt := 13) hx hb dX8_ofPerson_8 (by decide) (fun c3 => ?_) (fun c3 => ?_)
  · have hM := (o_if hM).2 c3
    refine lv_iload_n hx hb dX8_ofPerson_13 rfl (lv_at hl 2 rfl) ?_
    by_cases c4 : p_what = 0
    · have hM := (o_if hM).1 c4
      refine lv_tableIn (off := 30) (tgt := 44) hx hb dX8_ofPerson_14 (by rw [c4]; decide) (by rw [c4]; decide) (by rw [c4]; rfl) (by decide) ?_
      refine lv_aload_n hx hb dX8_ofPerson_44 rfl (lv_at hl 0 rfl) ?_
      refine va_get (ci := 7) (v := .ref q_t_plan) (C := RX8) (T := TX8) (N := 8) hx hb hts iX8 hown hK.1 hP 0 rfl rfl 0 (Nat.le_of_ble_eq_true rfl) k0 (fun _ h9 => h9) rfl dX8_ofPerson_45 ?_
      refine va_get (ci := 3) (v := .ref q_t_plan_kinds) (C := RX3) (T := TX3) (N := 7) hx hb hts iX3 hown hK.1 hP 1 rfl rfl 3 (Nat.le_of_ble_eq_true rfl) k1 (fun _ h9 => h9) rfl dX8_ofPerson_48 ?_
      refine lv_iload_n hx hb dX8_ofPerson_51 rfl (lv_at hl 1 rfl) ?_
      obtain ⟨h5, hM⟩ := o_ck hM
      refine va_iald hx hb hK.1 hP 2 0 rfl rfl h5 dX8_ofPerson_52 ?_
      have hM := (Option.some.inj hM)
      subst hM
      exact rt_i hx hb hr hlocks hP hD hS dX8_ofPerson_53
    have hM := (o_if hM).2 c4
    by_cases c6 : p_what = 1
    · have hM := (o_if hM).1 c6
      refine lv_tableIn (off := 40) (tgt := 54) hx hb dX8_ofPerson_14 (by rw [c6]; decide) (by rw [c6]; decide) (by rw [c6]; rfl) (by decide) ?_
      refine lv_aload_n hx hb dX8_ofPerson_54 rfl (lv_at hl 0 rfl) ?_
      refine va_get (ci := 7) (v := .ref q_t_plan) (C := RX8) (T := TX8) (N := 8) hx hb hts iX8 hown hK.1 hP 0 rfl rfl 0 (Nat.le_of_ble_eq_true rfl) k0 (fun _ h9 => h9) rfl dX8_ofPerson_55 ?_
      refine va_get (ci := 3) (v := .ref q_t_plan_comes) (C := RX3) (T := TX3) (N := 7) hx hb hts iX3 hown hK.1 hP 1 rfl rfl 4 (Nat.le_of_ble_eq_true rfl) k2 (fun _ h9 => h9) rfl dX8_ofPerson_58 ?_
      refine lv_iload_n hx hb dX8_ofPerson_61 rfl (lv_at hl 1 rfl) ?_
      obtain ⟨h7, hM⟩ := o_ck hM
      refine va_iald hx hb hK.1 hP 3 0 rfl rfl h7 dX8_ofPerson_62 ?_
      have hM := (Option.some.inj hM)
      subst hM
      exact rt_i hx hb hr hlocks hP hD hS dX8_ofPerson_63
    have hM := (o_if hM).2 c6
    by_cases c8 : p_what = 2
    · have hM := (o_if hM).1 c8
      refine lv_tableIn (off := 50) (tgt := 64) hx hb dX8_ofPerson_14 (by rw [c8]; decide) (by rw [c8]; decide) (by rw [c8]; rfl) (by decide) ?_
      refine lv_aload_n hx hb dX8_ofPerson_64 rfl (lv_at hl 0 rfl) ?_
      refine va_get (ci := 7) (v := .ref q_t_plan) (C := RX8) (T := TX8) (N := 8) hx hb hts iX8 hown hK.1 hP 0 rfl rfl 0 (Nat.le_of_ble_eq_true rfl) k0 (fun _ h9 => h9) rfl dX8_ofPerson_65 ?_
      refine va_get (ci := 3) (v := .ref q_t_plan_wants) (C := RX3) (T := TX3) (N := 7) hx hb hts iX3 hown hK.1 hP 1 rfl rfl 5 (Nat.le_of_ble_eq_true rfl) k3 (fun _ h9 => h9) rfl dX8_ofPerson_68 ?_
      refine lv_iload_n hx hb dX8_ofPerson_71 rfl (lv_at hl 1 rfl) ?_
      obtain ⟨h9, hM⟩ := o_ck hM
      refine va_iald hx hb hK.1 hP 4 0 rfl rfl h9 dX8_ofPerson_72 ?_
      have hM := (Option.some.inj hM)
      subst hM
      exact rt_i hx hb hr hlocks hP hD hS dX8_ofPerson_73
    have hM := (o_if hM).2 c8
    by_cases c10 : p_what = 3
    · have hM := (o_if hM).1 c10
      refine lv_tableIn (off := 60) (tgt := 74) hx hb dX8_ofPerson_14 (by rw [c10]; decide) (by rw [c10]; decide) (by rw [c10]; rfl) (by decide) ?_
      refine lv_aload_n hx hb dX8_ofPerson_74 rfl (lv_at hl 0 rfl) ?_
      refine va_get (ci := 7) (v := .ref q_t_plan) (C := RX8) (T := TX8) (N := 8) hx hb hts iX8 hown hK.1 hP 0 rfl rfl 0 (Nat.le_of_ble_eq_true rfl) k0 (fun _ h9 => h9) rfl dX8_ofPerson_75 ?_
      refine va_get (ci := 3) (v := .ref q_t_plan_outs) (C := RX3) (T := TX3) (N := 7) hx hb hts iX3 hown hK.1 hP 1 rfl rfl 6 (Nat.le_of_ble_eq_true rfl) k4 (fun _ h9 => h9) rfl dX8_ofPerson_78 ?_
      refine lv_iload_n hx hb dX8_ofPerson_81 rfl (lv_at hl 1 rfl) ?_
      obtain ⟨h11, hM⟩ := o_ck hM
      refine va_iald hx hb hK.1 hP 5 0 rfl rfl h11 dX8_ofPerson_82 ?_
      have hM := (Option.some.inj hM)
      subst hM
      exact rt_i hx hb hr hlocks hP hD hS dX8_ofPerson_83
    have hM := (o_if hM).2 c10
    refine lv_tableOut (tgt := 84) hx hb dX8_ofPerson_14 (by have q0 := lv_neT c4 (a := 0) rfl; have q1 := lv_neT c6 (a := 1) rfl; have q2 := lv_neT c8 (a := 2) rfl; have q3 := lv_neT c10 (a := 3) rfl; omega) (by decide) ?_
    refine lv_bipush (v := (-2)) hx hb dX8_ofPerson_84 (by decide) ?_
    have hM := (Option.some.inj hM)
    subst hM
    exact rt_i hx hb hr hlocks hP hD hS dX8_ofPerson_86
  · have hM := (o_if hM).1 c3
    refine lv_iconst (v := (-1)) hx hb dX8_ofPerson_11 (by decide) ?_
    have hM := (Option.some.inj hM)
    subst hM
    exact rt_i hx hb hr hlocks hP hD hS dX8_ofPerson_12
/-! ===== TurnQueue.come ===== -/
abbrev w_Tq_come (cI cJ cS : ClassId) (q_t : Nat) (q_t_plan : Nat) (q_t_counter : Nat) (q_t_choices : Nat) (q_t_ringers : Nat) (q_t_readings : Nat) (q_t_sheets : Nat) (q_t_plan_kinds : Nat) (q_t_plan_comes : Nat) (q_t_plan_wants : Nat) (q_t_plan_outs : Nat) (t_traced : Int32) (t_lastFault : Int32) (t_plan_law : Int32) (t_plan_count : Int32) (t_plan_bells : Int64) (t_plan_comes : Nat → Int32) : va_W := [(q_t, .inr (7, [.ref q_t_plan, .ref q_t_counter, .ref q_t_choices, .ref q_t_ringers, .ref q_t_readings, .ref q_t_sheets, .int t_traced, .int t_lastFault])), (q_t_plan, .inr (3, [.int t_plan_law, .int t_plan_count, .long t_plan_bells, .ref q_t_plan_kinds, .ref q_t_plan_comes, .ref q_t_plan_wants, .ref q_t_plan_outs])), (q_t_plan_comes, ar cI 7 t_plan_comes)]
abbrev rm_Tq_come : Room := { frames := 1, cells := 0, slots := 0, locals := 21 }
noncomputable def Tq_come (p_p : Int32) (p_minute : Int32) (t_plan_count : Int32) (t_plan_comes : Nat → Int32) : Option (Int32 × (Nat → Int32)) :=
  (Pl_has p_p t_plan_count).bind fun y1 =>
  if y1 = 0 then
    some ((-1), t_plan_comes)
  else
    (Tq_isMinute p_minute).bind fun y4 =>
    if y4 = 0 then
      some ((-2), t_plan_comes)
    else
      if ck p_p 7 = true then
        lt (t_plan_comes p_p.toNatClampNeg) fun y8 =>
        if ck p_p 7 = true then
          some (y8, upd t_plan_comes p_p.toNatClampNeg p_minute)
        else none
      else none
set_option maxRecDepth 100000 in
set_option maxHeartbeats 4000000 in
theorem c_Tq_come (l : Launch) (D : va_G) (cI cJ cS : ClassId) (q_t q_t_plan q_t_counter q_t_choices q_t_ringers q_t_readings q_t_sheets q_t_plan_kinds q_t_plan_comes q_t_plan_wants q_t_plan_outs : Nat) (t_traced : Int32) (t_lastFault : Int32) (t_plan_law : Int32) (t_plan_count : Int32) (t_plan_bells : Int64) (t_plan_comes : Nat → Int32) (p_p : Int32) (p_minute : Int32) (o : Int32 × (Nat → Int32)) (hM : Tq_come p_p p_minute t_plan_count t_plan_comes = some o) : Ci l yX8_come wsX8_come rm_Tq_come D cI cJ cS [.ref q_t, .int p_p, .int p_minute] (w_Tq_come cI cJ cS q_t q_t_plan q_t_counter q_t_choices q_t_ringers q_t_readings q_t_sheets q_t_plan_kinds q_t_plan_comes q_t_plan_wants q_t_plan_outs t_traced t_lastFault t_plan_law t_plan_count t_plan_bells t_plan_comes) (w_Tq_come cI cJ cS q_t q_t_plan q_t_counter q_t_choices q_t_ringers q_t_readings q_t_sheets q_t_plan_kinds q_t_plan_comes q_t_plan_wants q_t_plan_outs t_traced t_lastFault t_plan_law t_plan_count t_plan_bells o.2) o.1 := by
  refine Ci.of (cc := cX8_come) (maxL := 4) (ret := (some .int)) (by decide) rfl (Nat.le_of_ble_eq_true rfl) ?_
  intro p e s m args below meth c A ls hE
  obtain ⟨hx, hb, hr, hml, hown, hts, hlocks, hK, hA, hP, hD, hS, hl⟩ := hE
  have hown : s.vm.findClass RX8 = some m.cls := hown
  have hl : lv_has ls 4 [(0, .ref q_t), (1, .int p_p), (2, .int p_minute)] := hl
  have iX8 : ∀ w ∈ u_ws RX8 TX8 8, w ∈ wsX8_come := by decide +kernel
  have iX3 : ∀ w ∈ u_ws RX3 TX3 7, w ∈ wsX8_come := by decide +kernel
  have k0 := hts (.fieldLink RX8 12 "TurnQueue" "plan" "LTurnQueue$Plan;") (by decide +kernel)
  have k1 := hts (.fieldLink RX8 106 "TurnQueue$Plan" "comes" "[I") (by decide +kernel)
  unfold Tq_come at hM
  refine lv_aload_n hx hb dX8_come_0 rfl (lv_at hl 0 rfl) ?_
  refine va_get (ci := 7) (v := .ref q_t_plan) (C := RX8) (T := TX8) (N := 8) hx hb hts iX8 hown hK.1 hP 0 rfl rfl 0 (Nat.le_of_ble_eq_true rfl) k0 (fun _ h9 => h9) rfl dX8_come_1 ?_
  refine lv_iload_n hx hb dX8_come_4 rfl (lv_at hl 1 rfl) ?_
  obtain ⟨y1, h2, hM⟩ := o_bd hM
  refine af_i (ws2 := (w_Tq_come cI cJ cS q_t q_t_plan q_t_counter q_t_choices q_t_ringers q_t_readings q_t_sheets q_t_plan_kinds q_t_plan_comes q_t_plan_wants q_t_plan_outs t_traced t_lastFault t_plan_law t_plan_count t_plan_bells t_plan_comes)) (va_runV (As := [.int p_p]) (rest := []) ⟨hx, hb, hml, hown, hts⟩ (c_Pl_has l D cI cJ cS q_t_plan q_t_plan_kinds q_t_plan_comes q_t_plan_wants q_t_plan_outs t_plan_law t_plan_count t_plan_bells p_p y1 h2 _) (cwV 1 hts gX8_come_X3_has rfl rfl rfl (by decide +kernel) ⟨(Nat.le_of_ble_eq_true rfl), (Nat.le_of_ble_eq_true rfl)⟩) (pre_V hK hP hD [1] rfl rfl rfl rfl) rfl rfl hl.1 rfl (lv_room (Nat.le_of_ble_eq_true rfl)) dX8_come_5 ⟨Nat.zero_le _, Nat.zero_le _⟩) hP hD hS hA [1] [0, 2] [0, 2, 1] rfl rfl rfl (by decide) rfl rfl (fun H locs hP hD hS => ?_)
  refine lv_if_ne (tgt := 13) hx hb dX8_come_8 (by decide) (fun c3 => ?_) (fun c3 => ?_)
  · have hM := (o_if hM).2 c3
    refine lv_iload_n hx hb dX8_come_13 rfl (lv_at hl 2 rfl) ?_
    obtain ⟨y4, h5, hM⟩ := o_bd hM
    refine af_i (ws2 := (w_Tq_come cI cJ cS q_t q_t_plan q_t_counter q_t_choices q_t_ringers q_t_readings q_t_sheets q_t_plan_kinds q_t_plan_comes q_t_plan_wants q_t_plan_outs t_traced t_lastFault t_plan_law t_plan_count t_plan_bells t_plan_comes)) (va_runS (As := [.int p_minute]) (rest := []) ⟨hx, hb, hml, hown, hts⟩ (c_Tq_isMinute l D cI cJ cS p_minute y4 h5 _) (va_cwS 1 hts gX8_come_X8_isMinute rfl rfl rfl (by decide +kernel) ⟨(Nat.le_of_ble_eq_true rfl), (Nat.le_of_ble_eq_true rfl)⟩) (pre_S hK hP hD [] rfl rfl) rfl rfl hl.1 rfl (lv_room (Nat.le_of_ble_eq_true rfl)) dX8_come_14 ⟨Nat.zero_le _, Nat.zero_le _⟩) hP hD hS hA [] [0, 1, 2] [0, 1, 2] rfl rfl rfl (by decide) rfl rfl (fun H locs hP hD hS => ?_)
    refine lv_if_ne (tgt := 23) hx hb dX8_come_17 (by decide) (fun c6 => ?_) (fun c6 => ?_)
    · have hM := (o_if hM).2 c6
      refine lv_aload_n hx hb dX8_come_23 rfl (lv_at hl 0 rfl) ?_
      refine va_get (ci := 7) (v := .ref q_t_plan) (C := RX8) (T := TX8) (N := 8) hx hb hts iX8 hown hK.1 hP 0 rfl rfl 0 (Nat.le_of_ble_eq_true rfl) k0 (fun _ h9 => h9) rfl dX8_come_24 ?_
      refine va_get (ci := 3) (v := .ref q_t_plan_comes) (C := RX3) (T := TX3) (N := 7) hx hb hts iX3 hown hK.1 hP 1 rfl rfl 4 (Nat.le_of_ble_eq_true rfl) k1 (fun _ h9 => h9) rfl dX8_come_27 ?_
      refine lv_iload_n hx hb dX8_come_30 rfl (lv_at hl 1 rfl) ?_
      obtain ⟨h7, hM⟩ := o_ck hM
      refine va_iald hx hb hK.1 hP 2 0 rfl rfl h7 dX8_come_31 ?_
      refine lv_topi (fun y8 ey8 => ?_)
      have hM := o_lt hM y8 ey8
      refine lv_istore_n (lv' := [(3, .int y8), (0, .ref q_t), (1, .int p_p), (2, .int p_minute)]) hx hb dX8_come_32 rfl hl (Nat.le_of_ble_eq_true rfl) rfl (fun ls hl => ?_)
      refine lv_aload_n hx hb dX8_come_33 rfl (lv_at hl 1 rfl) ?_
      refine va_get (ci := 7) (v := .ref q_t_plan) (C := RX8) (T := TX8) (N := 8) hx hb hts iX8 hown hK.1 hP 0 rfl rfl 0 (Nat.le_of_ble_eq_true rfl) k0 (fun _ h9 => h9) rfl dX8_come_34 ?_
      refine va_get (ci := 3) (v := .ref q_t_plan_comes) (C := RX3) (T := TX3) (N := 7) hx hb hts iX3 hown hK.1 hP 1 rfl rfl 4 (Nat.le_of_ble_eq_true rfl) k1 (fun _ h9 => h9) rfl dX8_come_37 ?_
      refine lv_iload_n hx hb dX8_come_40 rfl (lv_at hl 2 rfl) ?_
      refine lv_iload_n hx hb dX8_come_41 rfl (lv_at hl 3 rfl) ?_
      obtain ⟨h9, hM⟩ := o_ck hM
      refine va_iast hx hb hK.1 hP hD hS 2 0 rfl rfl h9 dX8_come_42 (fun H locs hP hD hS => ?_)
      have hP : va_P D vwCl (w_Tq_come cI cJ cS q_t q_t_plan q_t_counter q_t_choices q_t_ringers q_t_readings q_t_sheets q_t_plan_kinds q_t_plan_comes q_t_plan_wants q_t_plan_outs t_traced t_lastFault t_plan_law t_plan_count t_plan_bells (upd t_plan_comes p_p.toNatClampNeg p_minute)) H := hP
      have hD : va_D A (w_Tq_come cI cJ cS q_t q_t_plan q_t_counter q_t_choices q_t_ringers q_t_readings q_t_sheets q_t_plan_kinds q_t_plan_comes q_t_plan_wants q_t_plan_outs t_traced t_lastFault t_plan_law t_plan_count t_plan_bells (upd t_plan_comes p_p.toNatClampNeg p_minute)) := hD
      refine lv_iload_n hx hb dX8_come_43 rfl (lv_at hl 0 rfl) ?_
      have hM := (Option.some.inj hM)
      subst hM
      exact rt_i hx hb hr hlocks hP hD hS dX8_come_44
    · have hM := (o_if hM).1 c6
      refine lv_bipush (v := (-2)) hx hb dX8_come_20 (by decide) ?_
      have hM := (Option.some.inj hM)
      subst hM
      exact rt_i hx hb hr hlocks hP hD hS dX8_come_22
  · have hM := (o_if hM).1 c3
    refine lv_iconst (v := (-1)) hx hb dX8_come_11 (by decide) ?_
    have hM := (Option.some.inj hM)
    subst hM
    exact rt_i hx hb hr hlocks hP hD hS dX8_come_12
/-! ===== TurnQueue.runOut ===== -/
abbrev w_Tq_runOut (cI cJ cS : ClassId) (q_t : Nat) (q_t_plan : Nat) (q_t_counter : Nat) (q_t_choices : Nat) (q_t_ringers : Nat) (q_t_readings : Nat) (q_t_sheets : Nat) (q_t_plan_kinds : Nat) (q_t_plan_comes : Nat) (q_t_plan_wants : Nat) (q_t_plan_outs : Nat) (t_traced : Int32) (t_lastFault : Int32) (t_plan_law : Int32) (t_plan_count : Int32) (t_plan_bells : Int64) (t_plan_outs : Nat → Int32) : va_W := [(q_t, .inr (7, [.ref q_t_plan, .ref q_t_counter, .ref q_t_choices, .ref q_t_ringers, .ref q_t_readings, .ref q_t_sheets, .int t_traced, .int t_lastFault])), (q_t_plan, .inr (3, [.int t_plan_law, .int t_plan_count, .long t_plan_bells, .ref q_t_plan_kinds, .ref q_t_plan_comes, .ref q_t_plan_wants, .ref q_t_plan_outs])), (q_t_plan_outs, ar cI 7 t_plan_outs)]
abbrev rm_Tq_runOut : Room := { frames := 1, cells := 0, slots := 0, locals := 21 }
noncomputable def Tq_runOut_j29 (p_p : Int32) (p_minute : Int32) (t_plan_count : Int32) (t_plan_outs : Nat → Int32) : Option (Int32 × (Nat → Int32)) :=
  if ck p_p 7 = true then
    lt (t_plan_outs p_p.toNatClampNeg) fun y6 =>
    if ck p_p 7 = true then
      some (y6, upd t_plan_outs p_p.toNatClampNeg p_minute)
    else none
  else none
noncomputable def Tq_runOut (p_p : Int32) (p_minute : Int32) (t_plan_count : Int32) (t_plan_outs : Nat → Int32) : Option (Int32 × (Nat → Int32)) :=
  (Pl_has p_p t_plan_count).bind fun y1 =>
  if y1 = 0 then
    some ((-1), t_plan_outs)
  else
    if p_minute = (-9) then
      Tq_runOut_j29 p_p p_minute t_plan_count t_plan_outs
    else
      (Tq_isMinute p_minute).bind fun y8 =>
      if y8 = 0 then
        some ((-2), t_plan_outs)
      else
        Tq_runOut_j29 p_p p_minute t_plan_count t_plan_outs
set_option maxRecDepth 100000 in
set_option maxHeartbeats 4000000 in
theorem c_Tq_runOut (l : Launch) (D : va_G) (cI cJ cS : ClassId) (q_t q_t_plan q_t_counter q_t_choices q_t_ringers q_t_readings q_t_sheets q_t_plan_kinds q_t_plan_comes q_t_plan_wants q_t_plan_outs : Nat) (t_traced : Int32) (t_lastFault : Int32) (t_plan_law : Int32) (t_plan_count : Int32) (t_plan_bells : Int64) (t_plan_outs : Nat → Int32) (p_p : Int32) (p_minute : Int32) (o : Int32 × (Nat → Int32)) (hM : Tq_runOut p_p p_minute t_plan_count t_plan_outs = some o) : Ci l yX8_runOut wsX8_runOut rm_Tq_runOut D cI cJ cS [.ref q_t, .int p_p, .int p_minute] (w_Tq_runOut cI cJ cS q_t q_t_plan q_t_counter q_t_choices q_t_ringers q_t_readings q_t_sheets q_t_plan_kinds q_t_plan_comes q_t_plan_wants q_t_plan_outs t_traced t_lastFault t_plan_law t_plan_count t_plan_bells t_plan_outs) (w_Tq_runOut cI cJ cS q_t q_t_plan q_t_counter q_t_choices q_t_ringers q_t_readings q_t_sheets q_t_plan_kinds q_t_plan_comes q_t_plan_wants q_t_plan_outs t_traced t_lastFault t_plan_law t_plan_count t_plan_bells o.2) o.1 := by
  refine Ci.of (cc := cX8_runOut) (maxL := 4) (ret := (some .int)) (by decide) rfl (Nat.le_of_ble_eq_true rfl) ?_
  intro p e s m args below meth c A ls hE
  obtain ⟨hx, hb, hr, hml, hown, hts, hlocks, hK, hA, hP, hD, hS, hl⟩ := hE
  have hown : s.vm.findClass RX8 = some m.cls := hown
  have hl : lv_has ls 4 [(0, .ref q_t), (1, .int p_p), (2, .int p_minute)] := hl
  have iX8 : ∀ w ∈ u_ws RX8 TX8 8, w ∈ wsX8_runOut := by decide +kernel
  have iX3 : ∀ w ∈ u_ws RX3 TX3 7, w ∈ wsX8_runOut := by decide +kernel
  have k0 := hts (.fieldLink RX8 12 "TurnQueue" "plan" "LTurnQueue$Plan;") (by decide +kernel)
  have k1 := hts (.fieldLink RX8 112 "TurnQueue$Plan" "outs" "[I") (by decide +kernel)
  have J29 : ∀ (t_plan_outs : Nat → Int32), Tq_runOut_j29 p_p p_minute t_plan_count t_plan_outs = some o → ∀ (H : Heap) (locs : List Loc), va_P D vwCl (w_Tq_runOut cI cJ cS q_t q_t_plan q_t_counter q_t_choices q_t_ringers q_t_readings q_t_sheets q_t_plan_kinds q_t_plan_comes q_t_plan_wants q_t_plan_outs t_traced t_lastFault t_plan_law t_plan_count t_plan_bells t_plan_outs) H → va_D A (w_Tq_runOut cI cJ cS q_t q_t_plan q_t_counter q_t_choices q_t_ringers q_t_readings q_t_sheets q_t_plan_kinds q_t_plan_comes q_t_plan_wants q_t_plan_outs t_traced t_lastFault t_plan_law t_plan_count t_plan_bells t_plan_outs) → va_S A s.heap H locs → ∀ ls : Array Slot, lv_has ls 4 [(0, .ref q_t), (1, .int p_p), (2, .int p_minute)] → W p l e (headSpec wsX8_runOut rm_Tq_runOut).room s m args below meth c H locs 0 0 (MQ below (CQi D (w_Tq_runOut cI cJ cS q_t q_t_plan q_t_counter q_t_choices q_t_ringers q_t_readings q_t_sheets q_t_plan_kinds q_t_plan_comes q_t_plan_wants q_t_plan_outs t_traced t_lastFault t_plan_law t_plan_count t_plan_bells o.2) A o.1) args s 0 0 A) (F0 m 29 ls []) := by
    intro t_plan_outs hM H locs hP hD hS ls hl
    unfold Tq_runOut_j29 at hM
    refine lv_aload_n hx hb dX8_runOut_29 rfl (lv_at hl 0 rfl) ?_
    refine va_get (ci := 7) (v := .ref q_t_plan) (C := RX8) (T := TX8) (N := 8) hx hb hts iX8 hown hK.1 hP 0 rfl rfl 0 (Nat.le_of_ble_eq_true rfl) k0 (fun _ h9 => h9) rfl dX8_runOut_30 ?_
    refine va_get (ci := 3) (v := .ref q_t_plan_outs) (C := RX3) (T := TX3) (N := 7) hx hb hts iX3 hown hK.1 hP 1 rfl rfl 6 (Nat.le_of_ble_eq_true rfl) k1 (fun _ h9 => h9) rfl dX8_runOut_33 ?_
    refine lv_iload_n hx hb dX8_runOut_36 rfl (lv_at hl 1 rfl) ?_
    obtain ⟨h5, hM⟩ := o_ck hM
    refine va_iald hx hb hK.1 hP 2 0 rfl rfl h5 dX8_runOut_37 ?_
    refine lv_topi (fun y6 ey6 => ?_)
    have hM := o_lt hM y6 ey6
    refine lv_istore_n (lv' := [(3, .int y6), (0, .ref q_t), (1, .int p_p), (2, .int p_minute)]) hx hb dX8_runOut_38 rfl hl (Nat.le_of_ble_eq_true rfl) rfl (fun ls hl => ?_)
    refine lv_aload_n hx hb dX8_runOut_39 rfl (lv_at hl 1 rfl) ?_
    refine va_get (ci := 7) (v := .ref q_t_plan) (C := RX8) (T := TX8) (N := 8) hx hb hts iX8 hown hK.1 hP 0 rfl rfl 0 (Nat.le_of_ble_eq_true rfl) k0 (fun _ h9 => h9) rfl dX8_runOut_40 ?_
    refine va_get (ci := 3) (v := .ref q_t_plan_outs) (C := RX3) (T := TX3) (N := 7) hx hb hts iX3 hown hK.1 hP 1 rfl rfl 6 (Nat.le_of_ble_eq_true rfl) k1 (fun _ h9 => h9) rfl dX8_runOut_43 ?_
    refine lv_iload_n hx hb dX8_runOut_46 rfl (lv_at hl 2 rfl) ?_
    refine lv_iload_n hx hb dX8_runOut_47 rfl (lv_at hl 3 rfl) ?_
    obtain ⟨h7, hM⟩ := o_ck hM
    refine va_iast hx hb hK.1 hP hD hS 2 0 rfl rfl h7 dX8_runOut_48 (fun H locs hP hD hS => ?_)
    have hP : va_P D vwCl (w_Tq_runOut cI cJ cS q_t q_t_plan q_t_counter q_t_choices q_t_ringers q_t_readings q_t_sheets q_t_plan_kinds q_t_plan_comes q_t_plan_wants q_t_plan_outs t_traced t_lastFault t_plan_law t_plan_count t_plan_bells (upd t_plan_outs p_p.toNatClampNeg p_minute)) H := hP
    have hD : va_D A (w_Tq_runOut cI cJ cS q_t q_t_plan q_t_counter q_t_choices q_t_ringers q_t_readings q_t_sheets q_t_plan_kinds q_t_plan_comes q_t_plan_wants q_t_plan_outs t_traced t_lastFault t_plan_law t_plan_count t_plan_bells (upd t_plan_outs p_p.toNatClampNeg p_minute)) := hD
    refine lv_iload_n hx hb dX8_runOut_49 rfl (lv_at hl 0 rfl) ?_
    have hM := (Option.some.inj hM)
    subst hM
    exact rt_i hx hb hr hlocks hP hD hS dX8_runOut_50
  unfold Tq_runOut at hM
  refine lv_aload_n hx hb dX8_runOut_0 rfl (lv_at hl 0 rfl) ?_
  refine va_get (ci := 7) (v := .ref q_t_plan) (C := RX8) (T := TX8) (N := 8) hx hb hts iX8 hown hK.1 hP 0 rfl rfl 0 (Nat.le_of_ble_eq_true rfl) k0 (fun _ h9 => h9) rfl dX8_runOut_1 ?_
  refine lv_iload_n hx hb dX8_runOut_4 rfl (lv_at hl 1 rfl) ?_
  obtain ⟨y1, h2, hM⟩ := o_bd hM
  refine af_i (ws2 := (w_Tq_runOut cI cJ cS q_t q_t_plan q_t_counter q_t_choices q_t_ringers q_t_readings q_t_sheets q_t_plan_kinds q_t_plan_comes q_t_plan_wants q_t_plan_outs t_traced t_lastFault t_plan_law t_plan_count t_plan_bells t_plan_outs)) (va_runV (As := [.int p_p]) (rest := []) ⟨hx, hb, hml, hown, hts⟩ (c_Pl_has l D cI cJ cS q_t_plan q_t_plan_kinds q_t_plan_comes q_t_plan_wants q_t_plan_outs t_plan_law t_plan_count t_plan_bells p_p y1 h2 _) (cwV 1 hts gX8_runOut_X3_has rfl rfl rfl (by decide +kernel) ⟨(Nat.le_of_ble_eq_true rfl), (Nat.le_of_ble_eq_true rfl)⟩) (pre_V hK hP hD [1] rfl rfl rfl rfl) rfl rfl hl.1 rfl (lv_room (Nat.le_of_ble_eq_true rfl)) dX8_runOut_5 ⟨Nat.zero_le _, Nat.zero_le _⟩) hP hD hS hA [1] [0, 2] [0, 2, 1] rfl rfl rfl (by decide) rfl rfl (fun H locs hP hD hS => ?_)
  refine lv_if_ne (tgt := 13) hx hb dX8_runOut_8 (by decide) (fun c3 => ?_) (fun c3 => ?_)
  · have hM := (o_if hM).2 c3
    refine lv_iload_n hx hb dX8_runOut_13 rfl (lv_at hl 2 rfl) ?_
    refine lv_bipush (v := (-9)) hx hb dX8_runOut_14 (by decide) ?_
    refine lv_icmp_eq (tgt := 29) hx hb dX8_runOut_16 (by decide) (fun c4 => ?_) (fun c4 => ?_)
    · have hM := (o_if hM).1 c4
      exact J29 t_plan_outs hM _ _ hP hD hS _ (lv_sub hl [0, 1, 2] rfl)
    · have hM := (o_if hM).2 c4
      refine lv_iload_n hx hb dX8_runOut_19 rfl (lv_at hl 2 rfl) ?_
      obtain ⟨y8, h9, hM⟩ := o_bd hM
      refine af_i (ws2 := (w_Tq_runOut cI cJ cS q_t q_t_plan q_t_counter q_t_choices q_t_ringers q_t_readings q_t_sheets q_t_plan_kinds q_t_plan_comes q_t_plan_wants q_t_plan_outs t_traced t_lastFault t_plan_law t_plan_count t_plan_bells t_plan_outs)) (va_runS (As := [.int p_minute]) (rest := []) ⟨hx, hb, hml, hown, hts⟩ (c_Tq_isMinute l D cI cJ cS p_minute y8 h9 _) (va_cwS 1 hts gX8_runOut_X8_isMinute rfl rfl rfl (by decide +kernel) ⟨(Nat.le_of_ble_eq_true rfl), (Nat.le_of_ble_eq_true rfl)⟩) (pre_S hK hP hD [] rfl rfl) rfl rfl hl.1 rfl (lv_room (Nat.le_of_ble_eq_true rfl)) dX8_runOut_20 ⟨Nat.zero_le _, Nat.zero_le _⟩) hP hD hS hA [] [0, 1, 2] [0, 1, 2] rfl rfl rfl (by decide) rfl rfl (fun H locs hP hD hS => ?_)
      refine lv_if_ne (tgt := 29) hx hb dX8_runOut_23 (by decide) (fun c10 => ?_) (fun c10 => ?_)
      · have hM := (o_if hM).2 c10
        exact J29 t_plan_outs hM _ _ hP hD hS _ (lv_sub hl [0, 1, 2] rfl)
      · have hM := (o_if hM).1 c10
        refine lv_bipush (v := (-2)) hx hb dX8_runOut_26 (by decide) ?_
        have hM := (Option.some.inj hM)
        subst hM
        exact rt_i hx hb hr hlocks hP hD hS dX8_runOut_28
  · have hM := (o_if hM).1 c3
    refine lv_iconst (v := (-1)) hx hb dX8_runOut_11 (by decide) ?_
    have hM := (Option.some.inj hM)
    subst hM
    exact rt_i hx hb hr hlocks hP hD hS dX8_runOut_12
/-! ===== TurnQueue.bell ===== -/
abbrev w_Tq_bell (cI cJ cS : ClassId) (q_t : Nat) (q_t_plan : Nat) (q_t_counter : Nat) (q_t_choices : Nat) (q_t_ringers : Nat) (q_t_readings : Nat) (q_t_sheets : Nat) (q_t_plan_kinds : Nat) (q_t_plan_comes : Nat) (q_t_plan_wants : Nat) (q_t_plan_outs : Nat) (t_traced : Int32) (t_lastFault : Int32) (t_plan_law : Int32) (t_plan_count : Int32) (t_plan_bells : Int64) : va_W := [(q_t, .inr (7, [.ref q_t_plan, .ref q_t_counter, .ref q_t_choices, .ref q_t_ringers, .ref q_t_readings, .ref q_t_sheets, .int t_traced, .int t_lastFault])), (q_t_plan, .inr (3, [.int t_plan_law, .int t_plan_count, .long t_plan_bells, .ref q_t_plan_kinds, .ref q_t_plan_comes, .ref q_t_plan_wants, .ref q_t_plan_outs]))]
abbrev rm_Tq_bell : Room := { frames := 2, cells := 0, slots := 0, locals := 42 }
noncomputable def Tq_bell (p_minute : Int32) (p_is : Int32) (t_plan_count : Int32) (t_plan_bells : Int64) : Option (Int32 × Int64) :=
  (Tq_isMinute p_minute).bind fun y1 =>
  if y1 = 0 then
    some ((-1), t_plan_bells)
  else
    (Pl_isNone t_plan_count).bind fun y4 =>
    if y4 = 0 then
      (Tq_hasMinute t_plan_bells p_minute).bind fun y7 =>
      if y7 = p_is then
        some (0, t_plan_bells)
      else
        lt (t_plan_bells ^^^ ((1 : Int64) <<< (p_minute.toInt64 &&& 63))) fun y10 =>
        some (1, y10)
    else
      some ((-3), t_plan_bells)
set_option maxRecDepth 100000 in
set_option maxHeartbeats 4000000 in
theorem c_Tq_bell (l : Launch) (D : va_G) (cI cJ cS : ClassId) (q_t q_t_plan q_t_counter q_t_choices q_t_ringers q_t_readings q_t_sheets q_t_plan_kinds q_t_plan_comes q_t_plan_wants q_t_plan_outs : Nat) (t_traced : Int32) (t_lastFault : Int32) (t_plan_law : Int32) (t_plan_count : Int32) (t_plan_bells : Int64) (p_minute : Int32) (p_is : Int32) (o : Int32 × Int64) (hM : Tq_bell p_minute p_is t_plan_count t_plan_bells = some o) : Ci l yX8_bell wsX8_bell rm_Tq_bell D cI cJ cS [.ref q_t, .int p_minute, .int p_is] (w_Tq_bell cI cJ cS q_t q_t_plan q_t_counter q_t_choices q_t_ringers q_t_readings q_t_sheets q_t_plan_kinds q_t_plan_comes q_t_plan_wants q_t_plan_outs t_traced t_lastFault t_plan_law t_plan_count t_plan_bells) (w_Tq_bell cI cJ cS q_t q_t_plan q_t_counter q_t_choices q_t_ringers q_t_readings q_t_sheets q_t_plan_kinds q_t_plan_comes q_t_plan_wants q_t_plan_outs t_traced t_lastFault t_plan_law t_plan_count o.2) o.1 := by
  refine Ci.of (cc := cX8_bell) (maxL := 3) (ret := (some .int)) (by decide) rfl (Nat.le_of_ble_eq_true rfl) ?_
  intro p e s m args below meth c A ls hE
  obtain ⟨hx, hb, hr, hml, hown, hts, hlocks, hK, hA, hP, hD, hS, hl⟩ := hE
  have hown : s.vm.findClass RX8 = some m.cls := hown
  have hl : lv_has ls 3 [(0, .ref q_t), (1, .int p_minute), (2, .int p_is)] := hl
  have iX8 : ∀ w ∈ u_ws RX8 TX8 8, w ∈ wsX8_bell := by decide +kernel
  have iX3 : ∀ w ∈ u_ws RX3 TX3 7, w ∈ wsX8_bell := by decide +kernel
  have k0 := hts (.fieldLink RX8 12 "TurnQueue" "plan" "LTurnQueue$Plan;") (by decide +kernel)
  have k1 := hts (.fieldLink RX8 121 "TurnQueue$Plan" "bells" "J") (by decide +kernel)
  unfold Tq_bell at hM
  refine lv_iload_n hx hb dX8_bell_0 rfl (lv_at hl 1 rfl) ?_
  obtain ⟨y1, h2, hM⟩ := o_bd hM
  refine af_i (ws2 := (w_Tq_bell cI cJ cS q_t q_t_plan q_t_counter q_t_choices q_t_ringers q_t_readings q_t_sheets q_t_plan_kinds q_t_plan_comes q_t_plan_wants q_t_plan_outs t_traced t_lastFault t_plan_law t_plan_count t_plan_bells)) (va_runS (As := [.int p_minute]) (rest := []) ⟨hx, hb, hml, hown, hts⟩ (c_Tq_isMinute l D cI cJ cS p_minute y1 h2 _) (va_cwS 1 hts gX8_bell_X8_isMinute rfl rfl rfl (by decide +kernel) ⟨(Nat.le_of_ble_eq_true rfl), (Nat.le_of_ble_eq_true rfl)⟩) (pre_S hK hP hD [] rfl rfl) rfl rfl hl.1 rfl (lv_room (Nat.le_of_ble_eq_true rfl)) dX8_bell_1 ⟨Nat.zero_le _, Nat.zero_le _⟩) hP hD hS hA [] [0, 1] [0, 1] rfl rfl rfl (by decide) rfl rfl (fun H locs hP hD hS => ?_)
  refine lv_if_ne (tgt := 9) hx hb dX8_bell_4 (by decide) (fun c3 => ?_) (fun c3 => ?_)
  · have hM := (o_if hM).2 c3
    refine lv_aload_n hx hb dX8_bell_9 rfl (lv_at hl 0 rfl) ?_
    refine va_get (ci := 7) (v := .ref q_t_plan) (C := RX8) (T := TX8) (N := 8) hx hb hts iX8 hown hK.1 hP 0 rfl rfl 0 (Nat.le_of_ble_eq_true rfl) k0 (fun _ h9 => h9) rfl dX8_bell_10 ?_
    obtain ⟨y4, h5, hM⟩ := o_bd hM
    refine af_i (ws2 := (w_Tq_bell cI cJ cS q_t q_t_plan q_t_counter q_t_choices q_t_ringers q_t_readings q_t_sheets q_t_plan_kinds q_t_plan_comes q_t_plan_wants q_t_plan_outs t_traced t_lastFault t_plan_law t_plan_count t_plan_bells)) (va_runV (As := []) (rest := []) ⟨hx, hb, hml, hown, hts⟩ (c_Pl_isNone l D cI cJ cS q_t_plan q_t_plan_kinds q_t_plan_comes q_t_plan_wants q_t_plan_outs t_plan_law t_plan_count t_plan_bells y4 h5 _) (cwV 0 hts gX8_bell_X3_isNone rfl rfl rfl (by decide +kernel) ⟨(Nat.le_of_ble_eq_true rfl), (Nat.le_of_ble_eq_true rfl)⟩) (pre_V hK hP hD [1] rfl rfl rfl rfl) rfl rfl hl.1 rfl (lv_room (Nat.le_of_ble_eq_true rfl)) dX8_bell_13 ⟨Nat.zero_le _, Nat.zero_le _⟩) hP hD hS hA [1] [0] [0, 1] rfl rfl rfl (by decide) rfl rfl (fun H locs hP hD hS => ?_)
    refine lv_if_eq (tgt := 22) hx hb dX8_bell_16 (by decide) (fun c6 => ?_) (fun c6 => ?_)
    · have hM := (o_if hM).1 c6
      refine lv_aload_n hx hb dX8_bell_22 rfl (lv_at hl 0 rfl) ?_
      refine va_get (ci := 7) (v := .ref q_t_plan) (C := RX8) (T := TX8) (N := 8) hx hb hts iX8 hown hK.1 hP 0 rfl rfl 0 (Nat.le_of_ble_eq_true rfl) k0 (fun _ h9 => h9) rfl dX8_bell_23 ?_
      refine va_get (ci := 3) (v := .long t_plan_bells) (C := RX3) (T := TX3) (N := 7) hx hb hts iX3 hown hK.1 hP 1 rfl rfl 2 (Nat.le_of_ble_eq_true rfl) k1 (fun _ h9 => h9) rfl dX8_bell_26 ?_
      refine lv_iload_n hx hb dX8_bell_29 rfl (lv_at hl 1 rfl) ?_
      obtain ⟨y7, h8, hM⟩ := o_bd hM
      refine af_i (ws2 := (w_Tq_bell cI cJ cS q_t q_t_plan q_t_counter q_t_choices q_t_ringers q_t_readings q_t_sheets q_t_plan_kinds q_t_plan_comes q_t_plan_wants q_t_plan_outs t_traced t_lastFault t_plan_law t_plan_count t_plan_bells)) (va_runS (As := [.long t_plan_bells, .int p_minute]) (rest := []) ⟨hx, hb, hml, hown, hts⟩ (c_Tq_hasMinute l D cI cJ cS t_plan_bells p_minute y7 h8 _) (va_cwS 2 hts gX8_bell_X8_hasMinute rfl rfl rfl (by decide +kernel) ⟨(Nat.le_of_ble_eq_true rfl), (Nat.le_of_ble_eq_true rfl)⟩) (pre_S hK hP hD [] rfl rfl) rfl rfl hl.1 rfl (lv_room (Nat.le_of_ble_eq_true rfl)) dX8_bell_30 ⟨Nat.zero_le _, Nat.zero_le _⟩) hP hD hS hA [] [0, 1] [0, 1] rfl rfl rfl (by decide) rfl rfl (fun H locs hP hD hS => ?_)
      refine lv_iload_n hx hb dX8_bell_33 rfl (lv_at hl 2 rfl) ?_
      refine lv_icmp_ne (tgt := 39) hx hb dX8_bell_34 (by decide) (fun c9 => ?_) (fun c9 => ?_)
      · have hM := (o_if hM).2 c9
        refine lv_aload_n hx hb dX8_bell_39 rfl (lv_at hl 0 rfl) ?_
        refine va_get (ci := 7) (v := .ref q_t_plan) (C := RX8) (T := TX8) (N := 8) hx hb hts iX8 hown hK.1 hP 0 rfl rfl 0 (Nat.le_of_ble_eq_true rfl) k0 (fun _ h9 => h9) rfl dX8_bell_40 ?_
        refine lv_dup hx hb dX8_bell_43 rfl ?_
        refine va_get (ci := 3) (v := .long t_plan_bells) (C := RX3) (T := TX3) (N := 7) hx hb hts iX3 hown hK.1 hP 1 rfl rfl 2 (Nat.le_of_ble_eq_true rfl) k1 (fun _ h9 => h9) rfl dX8_bell_44 ?_
        refine lv_lconst (v := 1) hx hb dX8_bell_47 (by decide) ?_
        refine lv_iload_n hx hb dX8_bell_48 rfl (lv_at hl 1 rfl) ?_
        refine lv_lshl (v := (1 : Int64) <<< (p_minute.toInt64 &&& 63)) hx hb dX8_bell_49 rfl ?_
        refine lv_lxor hx hb dX8_bell_50 ?_
        refine lv_topl (fun y10 ey10 => ?_)
        have hM := o_lt hM y10 ey10
        refine va_put (ci := 3) (v := .long y10) (ty := .long) (C := RX3) (T := TX3) (N := 7) hx hb hts iX3 tyX3 tyX3_ok nmX3 hown hK.1 hP hD hS 1 rfl rfl 2 (Nat.le_of_ble_eq_true rfl) k1 (fun _ h9 => h9) rfl (tyX3_ok 2 (Nat.le_of_ble_eq_true rfl)) rfl rfl (Nat.le_of_ble_eq_true rfl) dX8_bell_51 (fun H locs hP hD hS => ?_)
        have hP : va_P D vwCl (w_Tq_bell cI cJ cS q_t q_t_plan q_t_counter q_t_choices q_t_ringers q_t_readings q_t_sheets q_t_plan_kinds q_t_plan_comes q_t_plan_wants q_t_plan_outs t_traced t_lastFault t_plan_law t_plan_count y10) H := hP
        have hD : va_D A (w_Tq_bell cI cJ cS q_t q_t_plan q_t_counter q_t_choices q_t_ringers q_t_readings q_t_sheets q_t_plan_kinds q_t_plan_comes q_t_plan_wants q_t_plan_outs t_traced t_lastFault t_plan_law t_plan_count y10) := hD
        refine lv_iconst (v := 1) hx hb dX8_bell_54 (by decide) ?_
        have hM := (Option.some.inj hM)
        subst hM
        exact rt_i hx hb hr hlocks hP hD hS dX8_bell_55
      · have hM := (o_if hM).1 c9
        refine lv_iconst (v := 0) hx hb dX8_bell_37 (by decide) ?_
        have hM := (Option.some.inj hM)
        subst hM
        exact rt_i hx hb hr hlocks hP hD hS dX8_bell_38
    · have hM := (o_if hM).2 c6
      refine lv_bipush (v := (-3)) hx hb dX8_bell_19 (by decide) ?_
      have hM := (Option.some.inj hM)
      subst hM
      exact rt_i hx hb hr hlocks hP hD hS dX8_bell_21
  · have hM := (o_if hM).1 c3
    refine lv_iconst (v := (-1)) hx hb dX8_bell_7 (by decide) ?_
    have hM := (Option.some.inj hM)
    subst hM
    exact rt_i hx hb hr hlocks hP hD hS dX8_bell_8
/-! ===== TurnQueue.bells ===== -/
abbrev w_Tq_bells (cI cJ cS : ClassId) (q_t : Nat) (q_t_plan : Nat) (q_t_counter : Nat) (q_t_choices : Nat) (q_t_ringers : Nat) (q_t_readings : Nat) (q_t_sheets : Nat) (q_t_plan_kinds : Nat) (q_t_plan_comes : Nat) (q_t_plan_wants : Nat) (q_t_plan_outs : Nat) (t_traced : Int32) (t_lastFault : Int32) (t_plan_law : Int32) (t_plan_count : Int32) (t_plan_bells : Int64) : va_W := [(q_t, .inr (7, [.ref q_t_plan, .ref q_t_counter, .ref q_t_choices, .ref q_t_ringers, .ref q_t_readings, .ref q_t_sheets, .int t_traced, .int t_lastFault])), (q_t_plan, .inr (3, [.int t_plan_law, .int t_plan_count, .long t_plan_bells, .ref q_t_plan_kinds, .ref q_t_plan_comes, .ref q_t_plan_wants, .ref q_t_plan_outs]))]
abbrev rm_Tq_bells : Room := { frames := 0, cells := 0, slots := 0, locals := 0 }
noncomputable def Tq_bells (t_plan_bells : Int64) : Option (Int64) :=
  some t_plan_bells
set_option maxRecDepth 100000 in
set_option maxHeartbeats 4000000 in
theorem c_Tq_bells (l : Launch) (D : va_G) (cI cJ cS : ClassId) (q_t q_t_plan q_t_counter q_t_choices q_t_ringers q_t_readings q_t_sheets q_t_plan_kinds q_t_plan_comes q_t_plan_wants q_t_plan_outs : Nat) (t_traced : Int32) (t_lastFault : Int32) (t_plan_law : Int32) (t_plan_count : Int32) (t_plan_bells : Int64) (o : Int64) (hM : Tq_bells t_plan_bells = some o) : Cl l yX8_bells wsX8_bells rm_Tq_bells D cI cJ cS [.ref q_t] (w_Tq_bells cI cJ cS q_t q_t_plan q_t_counter q_t_choices q_t_ringers q_t_readings q_t_sheets q_t_plan_kinds q_t_plan_comes q_t_plan_wants q_t_plan_outs t_traced t_lastFault t_plan_law t_plan_count t_plan_bells) (w_Tq_bells cI cJ cS q_t q_t_plan q_t_counter q_t_choices q_t_ringers q_t_readings q_t_sheets q_t_plan_kinds q_t_plan_comes q_t_plan_wants q_t_plan_outs t_traced t_lastFault t_plan_law t_plan_count t_plan_bells) o := by
  refine Cl.of (cc := cX8_bells) (maxL := 1) (ret := (some .long)) (by decide) rfl (Nat.le_of_ble_eq_true rfl) ?_
  intro p e s m args below meth c A ls hE
  obtain ⟨hx, hb, hr, hml, hown, hts, hlocks, hK, hA, hP, hD, hS, hl⟩ := hE
  have hown : s.vm.findClass RX8 = some m.cls := hown
  have hl : lv_has ls 1 [(0, .ref q_t)] := hl
  have iX8 : ∀ w ∈ u_ws RX8 TX8 8, w ∈ wsX8_bells := by decide +kernel
  have iX3 : ∀ w ∈ u_ws RX3 TX3 7, w ∈ wsX8_bells := by decide +kernel
  have k0 := hts (.fieldLink RX8 12 "TurnQueue" "plan" "LTurnQueue$Plan;") (by decide +kernel)
  have k1 := hts (.fieldLink RX8 121 "TurnQueue$Plan" "bells" "J") (by decide +kernel)
  unfold Tq_bells at hM
  refine lv_aload_n hx hb dX8_bells_0 rfl (lv_at hl 0 rfl) ?_
  refine va_get (ci := 7) (v := .ref q_t_plan) (C := RX8) (T := TX8) (N := 8) hx hb hts iX8 hown hK.1 hP 0 rfl rfl 0 (Nat.le_of_ble_eq_true rfl) k0 (fun _ h9 => h9) rfl dX8_bells_1 ?_
  refine va_get (ci := 3) (v := .long t_plan_bells) (C := RX3) (T := TX3) (N := 7) hx hb hts iX3 hown hK.1 hP 1 rfl rfl 2 (Nat.le_of_ble_eq_true rfl) k1 (fun _ h9 => h9) rfl dX8_bells_4 ?_
  have hM := (Option.some.inj hM)
  subst hM
  exact rt_l hx hb hr hlocks hP hD hS dX8_bells_7
/-! ===== TurnQueue.reading ===== -/
abbrev w_Tq_reading (cI cJ cS : ClassId) (q_t : Nat) (q_t_plan : Nat) (q_t_counter : Nat) (q_t_choices : Nat) (q_t_ringers : Nat) (q_t_readings : Nat) (q_t_sheets : Nat) (q_t_plan_kinds : Nat) (q_t_plan_comes : Nat) (q_t_plan_wants : Nat) (q_t_plan_outs : Nat) (q_t_readings_persons : Nat) (q_t_readings_minutes : Nat) (t_traced : Int32) (t_lastFault : Int32) (t_plan_law : Int32) (t_plan_count : Int32) (t_plan_bells : Int64) (t_readings_count : Int32) (t_readings_persons : Nat → Int32) (t_readings_minutes : Nat → Int32) : va_W := [(q_t, .inr (7, [.ref q_t_plan, .ref q_t_counter, .ref q_t_choices, .ref q_t_ringers, .ref q_t_readings, .ref q_t_sheets, .int t_traced, .int t_lastFault])), (q_t_plan, .inr (3, [.int t_plan_law, .int t_plan_count, .long t_plan_bells, .ref q_t_plan_kinds, .ref q_t_plan_comes, .ref q_t_plan_wants, .ref q_t_plan_outs])), (q_t_readings, .inr (4, [.ref q_t_readings_persons, .ref q_t_readings_minutes, .int t_readings_count])), (q_t_readings_persons, ar cI 8 t_readings_persons), (q_t_readings_minutes, ar cI 8 t_readings_minutes)]
abbrev rm_Tq_reading : Room := { frames := 1, cells := 0, slots := 0, locals := 22 }
noncomputable def Tq_reading (p_p : Int32) (p_minute : Int32) (t_plan_count : Int32) (t_readings_count : Int32) (t_readings_persons : Nat → Int32) (t_readings_minutes : Nat → Int32) : Option (Int32 × Int32 × (Nat → Int32) × (Nat → Int32)) :=
  (Pl_has p_p t_plan_count).bind fun y1 =>
  if y1 = 0 then
    some ((-1), t_readings_count, t_readings_persons, t_readings_minutes)
  else
    if p_minute < 0 then
      some ((-2), t_readings_count, t_readings_persons, t_readings_minutes)
    else
      if p_minute ≤ 199 then
        (Re_add p_p p_minute t_readings_count t_readings_persons t_readings_minutes).bind fun y6 =>
        some (y6.1, y6.2.1, y6.2.2.1, y6.2.2.2)
      else
        some ((-2), t_readings_count, t_readings_persons, t_readings_minutes)
set_option maxRecDepth 100000 in
set_option maxHeartbeats 4000000 in
theorem c_Tq_reading (l : Launch) (D : va_G) (cI cJ cS : ClassId) (q_t q_t_plan q_t_counter q_t_choices q_t_ringers q_t_readings q_t_sheets q_t_plan_kinds q_t_plan_comes q_t_plan_wants q_t_plan_outs q_t_readings_persons q_t_readings_minutes : Nat) (t_traced : Int32) (t_lastFault : Int32) (t_plan_law : Int32) (t_plan_count : Int32) (t_plan_bells : Int64) (t_readings_count : Int32) (t_readings_persons : Nat → Int32) (t_readings_minutes : Nat → Int32) (p_p : Int32) (p_minute : Int32) (o : Int32 × Int32 × (Nat → Int32) × (Nat → Int32)) (hM : Tq_reading p_p p_minute t_plan_count t_readings_count t_readings_persons t_readings_minutes = some o) : Ci l yX8_reading wsX8_reading rm_Tq_reading D cI cJ cS [.ref q_t, .int p_p, .int p_minute] (w_Tq_reading cI cJ cS q_t q_t_plan q_t_counter q_t_choices q_t_ringers q_t_readings q_t_sheets q_t_plan_kinds q_t_plan_comes q_t_plan_wants q_t_plan_outs q_t_readings_persons q_t_readings_minutes t_traced t_lastFault t_plan_law t_plan_count t_plan_bells t_readings_count t_readings_persons t_readings_minutes) (w_Tq_reading cI cJ cS q_t q_t_plan q_t_counter q_t_choices q_t_ringers q_t_readings q_t_sheets q_t_plan_kinds q_t_plan_comes q_t_plan_wants q_t_plan_outs q_t_readings_persons q_t_readings_minutes t_traced t_lastFault t_plan_law t_plan_count t_plan_bells o.2.1 o.2.2.1 o.2.2.2) o.1 := by
  refine Ci.of (cc := cX8_reading) (maxL := 3) (ret := (some .int)) (by decide) rfl (Nat.le_of_ble_eq_true rfl) ?_
  intro p e s m args below meth c A ls hE
  obtain ⟨hx, hb, hr, hml, hown, hts, hlocks, hK, hA, hP, hD, hS, hl⟩ := hE
  have hown : s.vm.findClass RX8 = some m.cls := hown
  have hl : lv_has ls 3 [(0, .ref q_t), (1, .int p_p), (2, .int p_minute)] := hl
  have iX8 : ∀ w ∈ u_ws RX8 TX8 8, w ∈ wsX8_reading := by decide +kernel
  have k0 := hts (.fieldLink RX8 12 "TurnQueue" "plan" "LTurnQueue$Plan;") (by decide +kernel)
  have k1 := hts (.fieldLink RX8 42 "TurnQueue" "readings" "LTurnQueue$Readings;") (by decide +kernel)
  unfold Tq_reading at hM
  refine lv_aload_n hx hb dX8_reading_0 rfl (lv_at hl 0 rfl) ?_
  refine va_get (ci := 7) (v := .ref q_t_plan) (C := RX8) (T := TX8) (N := 8) hx hb hts iX8 hown hK.1 hP 0 rfl rfl 0 (Nat.le_of_ble_eq_true rfl) k0 (fun _ h9 => h9) rfl dX8_reading_1 ?_
  refine lv_iload_n hx hb dX8_reading_4 rfl (lv_at hl 1 rfl) ?_
  obtain ⟨y1, h2, hM⟩ := o_bd hM
  refine af_i (ws2 := (w_Tq_reading cI cJ cS q_t q_t_plan q_t_counter q_t_choices q_t_ringers q_t_readings q_t_sheets q_t_plan_kinds q_t_plan_comes q_t_plan_wants q_t_plan_outs q_t_readings_persons q_t_readings_minutes t_traced t_lastFault t_plan_law t_plan_count t_plan_bells t_readings_count t_readings_persons t_readings_minutes)) (va_runV (As := [.int p_p]) (rest := []) ⟨hx, hb, hml, hown, hts⟩ (c_Pl_has l D cI cJ cS q_t_plan q_t_plan_kinds q_t_plan_comes q_t_plan_wants q_t_plan_outs t_plan_law t_plan_count t_plan_bells p_p y1 h2 _) (cwV 1 hts gX8_reading_X3_has rfl rfl rfl (by decide +kernel) ⟨(Nat.le_of_ble_eq_true rfl), (Nat.le_of_ble_eq_true rfl)⟩) (pre_V hK hP hD [1] rfl rfl rfl rfl) rfl rfl hl.1 rfl (lv_room (Nat.le_of_ble_eq_true rfl)) dX8_reading_5 ⟨Nat.zero_le _, Nat.zero_le _⟩) hP hD hS hA [1] [0, 2, 3, 4] [0, 4, 1, 2, 3] rfl rfl rfl (by decide) rfl rfl (fun H locs hP hD hS => ?_)
  refine lv_if_ne (tgt := 13) hx hb dX8_reading_8 (by decide) (fun c3 => ?_) (fun c3 => ?_)
  · have hM := (o_if hM).2 c3
    refine lv_iload_n hx hb dX8_reading_13 rfl (lv_at hl 2 rfl) ?_
    refine lv_if_lt (tgt := 24) hx hb dX8_reading_14 (by decide) (fun c4 => ?_) (fun c4 => ?_)
    · have hM := (o_if hM).1 c4
      refine lv_bipush (v := (-2)) hx hb dX8_reading_24 (by decide) ?_
      have hM := (Option.some.inj hM)
      subst hM
      exact rt_i hx hb hr hlocks hP hD hS dX8_reading_26
    · have hM := (o_if hM).2 c4
      refine lv_iload_n hx hb dX8_reading_17 rfl (lv_at hl 2 rfl) ?_
      refine lv_sipush (v := 199) hx hb dX8_reading_18 (by decide) ?_
      refine lv_icmp_le (tgt := 27) hx hb dX8_reading_21 (by decide) (fun c5 => ?_) (fun c5 => ?_)
      · have hM := (o_if hM).1 c5
        refine lv_aload_n hx hb dX8_reading_27 rfl (lv_at hl 0 rfl) ?_
        refine va_get (ci := 7) (v := .ref q_t_readings) (C := RX8) (T := TX8) (N := 8) hx hb hts iX8 hown hK.1 hP 0 rfl rfl 4 (Nat.le_of_ble_eq_true rfl) k1 (fun _ h9 => h9) rfl dX8_reading_28 ?_
        refine lv_iload_n hx hb dX8_reading_31 rfl (lv_at hl 1 rfl) ?_
        refine lv_iload_n hx hb dX8_reading_32 rfl (lv_at hl 2 rfl) ?_
        obtain ⟨y6, h7, hM⟩ := o_bd hM
        refine af_i (ws2 := (w_Tq_reading cI cJ cS q_t q_t_plan q_t_counter q_t_choices q_t_ringers q_t_readings q_t_sheets q_t_plan_kinds q_t_plan_comes q_t_plan_wants q_t_plan_outs q_t_readings_persons q_t_readings_minutes t_traced t_lastFault t_plan_law t_plan_count t_plan_bells y6.2.1 y6.2.2.1 y6.2.2.2)) (va_runV (As := [.int p_p, .int p_minute]) (rest := []) ⟨hx, hb, hml, hown, hts⟩ (c_Re_add l D cI cJ cS q_t_readings q_t_readings_persons q_t_readings_minutes t_readings_count t_readings_persons t_readings_minutes p_p p_minute y6 h7 _) (cwV 2 hts gX8_reading_X4_add rfl rfl rfl (by decide +kernel) ⟨(Nat.le_of_ble_eq_true rfl), (Nat.le_of_ble_eq_true rfl)⟩) (pre_V hK hP hD [2, 3, 4] rfl rfl rfl rfl) rfl rfl hl.1 rfl (lv_room (Nat.le_of_ble_eq_true rfl)) dX8_reading_33 ⟨Nat.zero_le _, Nat.zero_le _⟩) hP hD hS hA [2, 3, 4] [0, 1] [0, 1, 2, 3, 4] rfl rfl rfl (by decide) rfl rfl (fun H locs hP hD hS => ?_)
        have hM := (Option.some.inj hM)
        subst hM
        exact rt_i hx hb hr hlocks hP hD hS dX8_reading_36
      · have hM := (o_if hM).2 c5
        refine lv_bipush (v := (-2)) hx hb dX8_reading_24 (by decide) ?_
        have hM := (Option.some.inj hM)
        subst hM
        exact rt_i hx hb hr hlocks hP hD hS dX8_reading_26
  · have hM := (o_if hM).1 c3
    refine lv_iconst (v := (-1)) hx hb dX8_reading_11 (by decide) ?_
    have hM := (Option.some.inj hM)
    subst hM
    exact rt_i hx hb hr hlocks hP hD hS dX8_reading_12
/-! ===== TurnQueue.back ===== -/
abbrev w_Tq_back (cI cJ cS : ClassId) (q_t : Nat) (q_t_plan : Nat) (q_t_counter : Nat) (q_t_choices : Nat) (q_t_ringers : Nat) (q_t_readings : Nat) (q_t_sheets : Nat) (q_t_readings_persons : Nat) (q_t_readings_minutes : Nat) (t_traced : Int32) (t_lastFault : Int32) (t_readings_count : Int32) : va_W := [(q_t, .inr (7, [.ref q_t_plan, .ref q_t_counter, .ref q_t_choices, .ref q_t_ringers, .ref q_t_readings, .ref q_t_sheets, .int t_traced, .int t_lastFault])), (q_t_readings, .inr (4, [.ref q_t_readings_persons, .ref q_t_readings_minutes, .int t_readings_count]))]
abbrev rm_Tq_back : Room := { frames := 0, cells := 0, slots := 0, locals := 0 }
noncomputable def Tq_back (p_k : Int32) (t_readings_count : Int32) : Option (Int32 × Int32) :=
  if p_k < 0 then
    some ((-2), t_readings_count)
  else
    if p_k ≤ t_readings_count then
      lt (t_readings_count - p_k) fun y3 =>
      some (y3, y3)
    else
      some ((-2), t_readings_count)
set_option maxRecDepth 100000 in
set_option maxHeartbeats 4000000 in
theorem c_Tq_back (l : Launch) (D : va_G) (cI cJ cS : ClassId) (q_t q_t_plan q_t_counter q_t_choices q_t_ringers q_t_readings q_t_sheets q_t_readings_persons q_t_readings_minutes : Nat) (t_traced : Int32) (t_lastFault : Int32) (t_readings_count : Int32) (p_k : Int32) (o : Int32 × Int32) (hM : Tq_back p_k t_readings_count = some o) : Ci l yX8_back wsX8_back rm_Tq_back D cI cJ cS [.ref q_t, .int p_k] (w_Tq_back cI cJ cS q_t q_t_plan q_t_counter q_t_choices q_t_ringers q_t_readings q_t_sheets q_t_readings_persons q_t_readings_minutes t_traced t_lastFault t_readings_count) (w_Tq_back cI cJ cS q_t q_t_plan q_t_counter q_t_choices q_t_ringers q_t_readings q_t_sheets q_t_readings_persons q_t_readings_minutes t_traced t_lastFault o.2) o.1 := by
  refine Ci.of (cc := cX8_back) (maxL := 2) (ret := (some .int)) (by decide) rfl (Nat.le_of_ble_eq_true rfl) ?_
  intro p e s m args below meth c A ls hE
  obtain ⟨hx, hb, hr, hml, hown, hts, hlocks, hK, hA, hP, hD, hS, hl⟩ := hE
  have hown : s.vm.findClass RX8 = some m.cls := hown
  have hl : lv_has ls 2 [(0, .ref q_t), (1, .int p_k)] := hl
  have iX8 : ∀ w ∈ u_ws RX8 TX8 8, w ∈ wsX8_back := by decide +kernel
  have iX4 : ∀ w ∈ u_ws RX4 TX4 3, w ∈ wsX8_back := by decide +kernel
  have k0 := hts (.fieldLink RX8 42 "TurnQueue" "readings" "LTurnQueue$Readings;") (by decide +kernel)
  have k1 := hts (.fieldLink RX8 95 "TurnQueue$Readings" "count" "I") (by decide +kernel)
  unfold Tq_back at hM
  refine lv_iload_n hx hb dX8_back_0 rfl (lv_at hl 1 rfl) ?_
  refine lv_if_lt (tgt := 15) hx hb dX8_back_1 (by decide) (fun c1 => ?_) (fun c1 => ?_)
  · have hM := (o_if hM).1 c1
    refine lv_bipush (v := (-2)) hx hb dX8_back_15 (by decide) ?_
    have hM := (Option.some.inj hM)
    subst hM
    exact rt_i hx hb hr hlocks hP hD hS dX8_back_17
  · have hM := (o_if hM).2 c1
    refine lv_iload_n hx hb dX8_back_4 rfl (lv_at hl 1 rfl) ?_
    refine lv_aload_n hx hb dX8_back_5 rfl (lv_at hl 0 rfl) ?_
    refine va_get (ci := 7) (v := .ref q_t_readings) (C := RX8) (T := TX8) (N := 8) hx hb hts iX8 hown hK.1 hP 0 rfl rfl 4 (Nat.le_of_ble_eq_true rfl) k0 (fun _ h9 => h9) rfl dX8_back_6 ?_
    refine va_get (ci := 4) (v := .int t_readings_count) (C := RX4) (T := TX4) (N := 3) hx hb hts iX4 hown hK.1 hP 1 rfl rfl 2 (Nat.le_of_ble_eq_true rfl) k1 (fun _ h9 => h9) rfl dX8_back_9 ?_
    refine lv_icmp_le (tgt := 18) hx hb dX8_back_12 (by decide) (fun c2 => ?_) (fun c2 => ?_)
    · have hM := (o_if hM).1 c2
      refine lv_aload_n hx hb dX8_back_18 rfl (lv_at hl 0 rfl) ?_
      refine va_get (ci := 7) (v := .ref q_t_readings) (C := RX8) (T := TX8) (N := 8) hx hb hts iX8 hown hK.1 hP 0 rfl rfl 4 (Nat.le_of_ble_eq_true rfl) k0 (fun _ h9 => h9) rfl dX8_back_19 ?_
      refine lv_dup hx hb dX8_back_22 rfl ?_
      refine va_get (ci := 4) (v := .int t_readings_count) (C := RX4) (T := TX4) (N := 3) hx hb hts iX4 hown hK.1 hP 1 rfl rfl 2 (Nat.le_of_ble_eq_true rfl) k1 (fun _ h9 => h9) rfl dX8_back_23 ?_
      refine lv_iload_n hx hb dX8_back_26 rfl (lv_at hl 1 rfl) ?_
      refine lv_isub hx hb dX8_back_27 ?_
      refine lv_topi (fun y3 ey3 => ?_)
      have hM := o_lt hM y3 ey3
      refine va_put (ci := 4) (v := .int y3) (ty := .int) (C := RX4) (T := TX4) (N := 3) hx hb hts iX4 tyX4 tyX4_ok nmX4 hown hK.1 hP hD hS 1 rfl rfl 2 (Nat.le_of_ble_eq_true rfl) k1 (fun _ h9 => h9) rfl (tyX4_ok 2 (Nat.le_of_ble_eq_true rfl)) rfl rfl (Nat.le_of_ble_eq_true rfl) dX8_back_28 (fun H locs hP hD hS => ?_)
      have hP : va_P D vwCl (w_Tq_back cI cJ cS q_t q_t_plan q_t_counter q_t_choices q_t_ringers q_t_readings q_t_sheets q_t_readings_persons q_t_readings_minutes t_traced t_lastFault y3) H := hP
      have hD : va_D A (w_Tq_back cI cJ cS q_t q_t_plan q_t_counter q_t_choices q_t_ringers q_t_readings q_t_sheets q_t_readings_persons q_t_readings_minutes t_traced t_lastFault y3) := hD
      refine lv_aload_n hx hb dX8_back_31 rfl (lv_at hl 0 rfl) ?_
      refine va_get (ci := 7) (v := .ref q_t_readings) (C := RX8) (T := TX8) (N := 8) hx hb hts iX8 hown hK.1 hP 0 rfl rfl 4 (Nat.le_of_ble_eq_true rfl) k0 (fun _ h9 => h9) rfl dX8_back_32 ?_
      refine va_get (ci := 4) (v := .int y3) (C := RX4) (T := TX4) (N := 3) hx hb hts iX4 hown hK.1 hP 1 rfl rfl 2 (Nat.le_of_ble_eq_true rfl) k1 (fun _ h9 => h9) rfl dX8_back_35 ?_
      have hM := (Option.some.inj hM)
      subst hM
      exact rt_i hx hb hr hlocks hP hD hS dX8_back_38
    · have hM := (o_if hM).2 c2
      refine lv_bipush (v := (-2)) hx hb dX8_back_15 (by decide) ?_
      have hM := (Option.some.inj hM)
      subst hM
      exact rt_i hx hb hr hlocks hP hD hS dX8_back_17
/-! ===== TurnQueue.lostBy ===== -/
abbrev w_Tq_lostBy (cI cJ cS : ClassId) (q_t : Nat) (q_t_plan : Nat) (q_t_counter : Nat) (q_t_choices : Nat) (q_t_ringers : Nat) (q_t_readings : Nat) (q_t_sheets : Nat) (t_traced : Int32) (t_lastFault : Int32) : va_W := [(q_t, .inr (7, [.ref q_t_plan, .ref q_t_counter, .ref q_t_choices, .ref q_t_ringers, .ref q_t_readings, .ref q_t_sheets, .int t_traced, .int t_lastFault]))]
abbrev rm_Tq_lostBy : Room := { frames := 0, cells := 0, slots := 0, locals := 0 }
noncomputable def Tq_lostBy (p_fault : Int32) (t_lastFault : Int32) : Option (Int64 × Int32) :=
  some ((-9223372036854775808), p_fault)
set_option maxRecDepth 100000 in
set_option maxHeartbeats 4000000 in
theorem c_Tq_lostBy (l : Launch) (D : va_G) (cI cJ cS : ClassId) (q_t q_t_plan q_t_counter q_t_choices q_t_ringers q_t_readings q_t_sheets : Nat) (t_traced : Int32) (t_lastFault : Int32) (p_fault : Int32) (o : Int64 × Int32) (hM : Tq_lostBy p_fault t_lastFault = some o) : Cl l yX8_lostBy wsX8_lostBy rm_Tq_lostBy D cI cJ cS [.ref q_t, .int p_fault] (w_Tq_lostBy cI cJ cS q_t q_t_plan q_t_counter q_t_choices q_t_ringers q_t_readings q_t_sheets t_traced t_lastFault) (w_Tq_lostBy cI cJ cS q_t q_t_plan q_t_counter q_t_choices q_t_ringers q_t_readings q_t_sheets t_traced o.2) o.1 := by
  refine Cl.of (cc := cX8_lostBy) (maxL := 2) (ret := (some .long)) (by decide) rfl (Nat.le_of_ble_eq_true rfl) ?_
  intro p e s m args below meth c A ls hE
  obtain ⟨hx, hb, hr, hml, hown, hts, hlocks, hK, hA, hP, hD, hS, hl⟩ := hE
  have hown : s.vm.findClass RX8 = some m.cls := hown
  have hl : lv_has ls 2 [(0, .ref q_t), (1, .int p_fault)] := hl
  have iX8 : ∀ w ∈ u_ws RX8 TX8 8, w ∈ wsX8_lostBy := by decide +kernel
  have k0 := hts (.fieldLink RX8 56 "TurnQueue" "lastFault" "I") (by decide +kernel)
  have k1 := hts (.constantLong RX8 149 (-9223372036854775808)) (by decide +kernel)
  unfold Tq_lostBy at hM
  refine lv_aload_n hx hb dX8_lostBy_0 rfl (lv_at hl 0 rfl) ?_
  refine lv_iload_n hx hb dX8_lostBy_1 rfl (lv_at hl 1 rfl) ?_
  refine va_put (ci := 7) (v := .int p_fault) (ty := .int) (C := RX8) (T := TX8) (N := 8) hx hb hts iX8 tyX8 tyX8_ok nmX8 hown hK.1 hP hD hS 0 rfl rfl 7 (Nat.le_of_ble_eq_true rfl) k0 (fun _ h9 => h9) rfl (tyX8_ok 7 (Nat.le_of_ble_eq_true rfl)) rfl rfl (Nat.le_of_ble_eq_true rfl) dX8_lostBy_2 (fun H locs hP hD hS => ?_)
  have hP : va_P D vwCl (w_Tq_lostBy cI cJ cS q_t q_t_plan q_t_counter q_t_choices q_t_ringers q_t_readings q_t_sheets t_traced p_fault) H := hP
  have hD : va_D A (w_Tq_lostBy cI cJ cS q_t q_t_plan q_t_counter q_t_choices q_t_ringers q_t_readings q_t_sheets t_traced p_fault) := hD
  refine lv_ldc2 (v := (-9223372036854775808)) hx hb hown k1 dX8_lostBy_5 ?_
  have hM := (Option.some.inj hM)
  subst hM
  exact rt_l hx hb hr hlocks hP hD hS dX8_lostBy_8
/-! ===== TurnQueue.leave ===== -/
abbrev w_Tq_leave (cI cJ cS : ClassId) (q_t : Nat) (q_t_plan : Nat) (q_t_counter : Nat) (q_t_choices : Nat) (q_t_ringers : Nat) (q_t_readings : Nat) (q_t_sheets : Nat) (t_traced : Int32) (t_lastFault : Int32) : va_W := [(q_t, .inr (7, [.ref q_t_plan, .ref q_t_counter, .ref q_t_choices, .ref q_t_ringers, .ref q_t_readings, .ref q_t_sheets, .int t_traced, .int t_lastFault]))]
abbrev rm_Tq_leave : Room := { frames := 0, cells := 0, slots := 0, locals := 0 }
noncomputable def Tq_leave (p_body : Int32) (t_traced : Int32) : Option (Int32) :=
  lt ((31 * t_traced) + p_body) fun y1 =>
  some y1
set_option maxRecDepth 100000 in
set_option maxHeartbeats 4000000 in
theorem c_Tq_leave (l : Launch) (D : va_G) (cI cJ cS : ClassId) (q_t q_t_plan q_t_counter q_t_choices q_t_ringers q_t_readings q_t_sheets : Nat) (t_traced : Int32) (t_lastFault : Int32) (p_body : Int32) (o : Int32) (hM : Tq_leave p_body t_traced = some o) : Cv l yX8_leave wsX8_leave rm_Tq_leave D cI cJ cS [.ref q_t, .int p_body] (w_Tq_leave cI cJ cS q_t q_t_plan q_t_counter q_t_choices q_t_ringers q_t_readings q_t_sheets t_traced t_lastFault) (w_Tq_leave cI cJ cS q_t q_t_plan q_t_counter q_t_choices q_t_ringers q_t_readings q_t_sheets o t_lastFault) := by
  refine Cv.of (cc := cX8_leave) (maxL := 2) (ret := none) (by decide) rfl (Nat.le_of_ble_eq_true rfl) ?_
  intro p e s m args below meth c A ls hE
  obtain ⟨hx, hb, hr, hml, hown, hts, hlocks, hK, hA, hP, hD, hS, hl⟩ := hE
  have hown : s.vm.findClass RX8 = some m.cls := hown
  have hl : lv_has ls 2 [(0, .ref q_t), (1, .int p_body)] := hl
  have iX8 : ∀ w ∈ u_ws RX8 TX8 8, w ∈ wsX8_leave := by decide +kernel
  have k0 := hts (.fieldLink RX8 52 "TurnQueue" "traced" "I") (by decide +kernel)
  unfold Tq_leave at hM
  refine lv_aload_n hx hb dX8_leave_0 rfl (lv_at hl 0 rfl) ?_
  refine lv_bipush (v := 31) hx hb dX8_leave_1 (by decide) ?_
  refine lv_aload_n hx hb dX8_leave_3 rfl (lv_at hl 0 rfl) ?_
  refine va_get (ci := 7) (v := .int t_traced) (C := RX8) (T := TX8) (N := 8) hx hb hts iX8 hown hK.1 hP 0 rfl rfl 6 (Nat.le_of_ble_eq_true rfl) k0 (fun _ h9 => h9) rfl dX8_leave_4 ?_
  refine lv_imul hx hb dX8_leave_7 ?_
  refine lv_iload_n hx hb dX8_leave_8 rfl (lv_at hl 1 rfl) ?_
  refine lv_iadd hx hb dX8_leave_9 ?_
  refine lv_topi (fun y1 ey1 => ?_)
  have hM := o_lt hM y1 ey1
  refine va_put (ci := 7) (v := .int y1) (ty := .int) (C := RX8) (T := TX8) (N := 8) hx hb hts iX8 tyX8 tyX8_ok nmX8 hown hK.1 hP hD hS 0 rfl rfl 6 (Nat.le_of_ble_eq_true rfl) k0 (fun _ h9 => h9) rfl (tyX8_ok 6 (Nat.le_of_ble_eq_true rfl)) rfl rfl (Nat.le_of_ble_eq_true rfl) dX8_leave_10 (fun H locs hP hD hS => ?_)
  have hP : va_P D vwCl (w_Tq_leave cI cJ cS q_t q_t_plan q_t_counter q_t_choices q_t_ringers q_t_readings q_t_sheets y1 t_lastFault) H := hP
  have hD : va_D A (w_Tq_leave cI cJ cS q_t q_t_plan q_t_counter q_t_choices q_t_ringers q_t_readings q_t_sheets y1 t_lastFault) := hD
  have hM := (Option.some.inj hM)
  subst hM
  exact rt_v hx hb hr hlocks hP hD hS dX8_leave_13
/-! ===== TurnQueue.personTells ===== -/
abbrev w_Tq_personTells (cI cJ cS : ClassId) (q_t : Nat) (q_t_plan : Nat) (q_t_counter : Nat) (q_t_choices : Nat) (q_t_ringers : Nat) (q_t_readings : Nat) (q_t_sheets : Nat) (q_t_plan_kinds : Nat) (q_t_plan_comes : Nat) (q_t_plan_wants : Nat) (q_t_plan_outs : Nat) (t_traced : Int32) (t_lastFault : Int32) (t_plan_law : Int32) (t_plan_count : Int32) (t_plan_bells : Int64) (t_plan_wants : Nat → Int32) : va_W := [(q_t, .inr (7, [.ref q_t_plan, .ref q_t_counter, .ref q_t_choices, .ref q_t_ringers, .ref q_t_readings, .ref q_t_sheets, .int t_traced, .int t_lastFault])), (q_t_plan, .inr (3, [.int t_plan_law, .int t_plan_count, .long t_plan_bells, .ref q_t_plan_kinds, .ref q_t_plan_comes, .ref q_t_plan_wants, .ref q_t_plan_outs])), (q_t_plan_wants, ar cI 7 t_plan_wants)]
abbrev rm_Tq_personTells : Room := { frames := 1, cells := 0, slots := 0, locals := 21 }
noncomputable def Tq_personTells (p_p : Int32) (t_plan_wants : Nat → Int32) (t_traced : Int32) : Option (Int32 × Int32) :=
  (Tq_leave 1 t_traced).bind fun y1 =>
  if ck p_p 7 = true then
    some (t_plan_wants p_p.toNatClampNeg, y1)
  else none
set_option maxRecDepth 100000 in
set_option maxHeartbeats 4000000 in
theorem c_Tq_personTells (l : Launch) (D : va_G) (cI cJ cS : ClassId) (q_t q_t_plan q_t_counter q_t_choices q_t_ringers q_t_readings q_t_sheets q_t_plan_kinds q_t_plan_comes q_t_plan_wants q_t_plan_outs : Nat) (t_traced : Int32) (t_lastFault : Int32) (t_plan_law : Int32) (t_plan_count : Int32) (t_plan_bells : Int64) (t_plan_wants : Nat → Int32) (p_p : Int32) (o : Int32 × Int32) (hM : Tq_personTells p_p t_plan_wants t_traced = some o) : Ci l yX8_personTells wsX8_personTells rm_Tq_personTells D cI cJ cS [.ref q_t, .int p_p] (w_Tq_personTells cI cJ cS q_t q_t_plan q_t_counter q_t_choices q_t_ringers q_t_readings q_t_sheets q_t_plan_kinds q_t_plan_comes q_t_plan_wants q_t_plan_outs t_traced t_lastFault t_plan_law t_plan_count t_plan_bells t_plan_wants) (w_Tq_personTells cI cJ cS q_t q_t_plan q_t_counter q_t_choices q_t_ringers q_t_readings q_t_sheets q_t_plan_kinds q_t_plan_comes q_t_plan_wants q_t_plan_outs o.2 t_lastFault t_plan_law t_plan_count t_plan_bells t_plan_wants) o.1 := by
  refine Ci.of (cc := cX8_personTells) (maxL := 2) (ret := (some .int)) (by decide) rfl (Nat.le_of_ble_eq_true rfl) ?_
  intro p e s m args below meth c A ls hE
  obtain ⟨hx, hb, hr, hml, hown, hts, hlocks, hK, hA, hP, hD, hS, hl⟩ := hE
  have hown : s.vm.findClass RX8 = some m.cls := hown
  have hl : lv_has ls 2 [(0, .ref q_t), (1, .int p_p)] := hl
  have iX8 : ∀ w ∈ u_ws RX8 TX8 8, w ∈ wsX8_personTells := by decide +kernel
  have iX3 : ∀ w ∈ u_ws RX3 TX3 7, w ∈ wsX8_personTells := by decide +kernel
  have k0 := hts (.fieldLink RX8 12 "TurnQueue" "plan" "LTurnQueue$Plan;") (by decide +kernel)
  have k1 := hts (.fieldLink RX8 109 "TurnQueue$Plan" "wants" "[I") (by decide +kernel)
  unfold Tq_personTells at hM
  refine lv_aload_n hx hb dX8_personTells_0 rfl (lv_at hl 0 rfl) ?_
  refine lv_iconst (v := 1) hx hb dX8_personTells_1 (by decide) ?_
  obtain ⟨y1, h2, hM⟩ := o_bd hM
  refine af_v (ws2 := (w_Tq_personTells cI cJ cS q_t q_t_plan q_t_counter q_t_choices q_t_ringers q_t_readings q_t_sheets q_t_plan_kinds q_t_plan_comes q_t_plan_wants q_t_plan_outs y1 t_lastFault t_plan_law t_plan_count t_plan_bells t_plan_wants)) (va_runV (As := [.int 1]) (rest := []) ⟨hx, hb, hml, hown, hts⟩ (c_Tq_leave l D cI cJ cS q_t q_t_plan q_t_counter q_t_choices q_t_ringers q_t_readings q_t_sheets t_traced t_lastFault 1 y1 h2 _) (cwV 1 hts gX8_personTells_X8_leave rfl rfl rfl (by decide +kernel) ⟨(Nat.le_of_ble_eq_true rfl), (Nat.le_of_ble_eq_true rfl)⟩) (pre_V hK hP hD [0] rfl rfl rfl rfl) rfl rfl hl.1 rfl (lv_room (Nat.le_of_ble_eq_true rfl)) dX8_personTells_2 ⟨Nat.zero_le _, Nat.zero_le _⟩) hP hD hS hA [0] [1, 2] [2, 0, 1] rfl rfl rfl (by decide) rfl rfl (fun H locs hP hD hS => ?_)
  refine lv_aload_n hx hb dX8_personTells_5 rfl (lv_at hl 0 rfl) ?_
  refine va_get (ci := 7) (v := .ref q_t_plan) (C := RX8) (T := TX8) (N := 8) hx hb hts iX8 hown hK.1 hP 0 rfl rfl 0 (Nat.le_of_ble_eq_true rfl) k0 (fun _ h9 => h9) rfl dX8_personTells_6 ?_
  refine va_get (ci := 3) (v := .ref q_t_plan_wants) (C := RX3) (T := TX3) (N := 7) hx hb hts iX3 hown hK.1 hP 1 rfl rfl 5 (Nat.le_of_ble_eq_true rfl) k1 (fun _ h9 => h9) rfl dX8_personTells_9 ?_
  refine lv_iload_n hx hb dX8_personTells_12 rfl (lv_at hl 1 rfl) ?_
  obtain ⟨h3, hM⟩ := o_ck hM
  refine va_iald hx hb hK.1 hP 2 0 rfl rfl h3 dX8_personTells_13 ?_
  have hM := (Option.some.inj hM)
  subst hM
  exact rt_i hx hb hr hlocks hP hD hS dX8_personTells_14
/-! ===== TurnQueue.motherTells ===== -/
abbrev w_Tq_motherTells (cI cJ cS : ClassId) (q_t : Nat) (q_t_plan : Nat) (q_t_counter : Nat) (q_t_choices : Nat) (q_t_ringers : Nat) (q_t_readings : Nat) (q_t_sheets : Nat) (q_t_plan_kinds : Nat) (q_t_plan_comes : Nat) (q_t_plan_wants : Nat) (q_t_plan_outs : Nat) (t_traced : Int32) (t_lastFault : Int32) (t_plan_law : Int32) (t_plan_count : Int32) (t_plan_bells : Int64) (t_plan_wants : Nat → Int32) : va_W := [(q_t, .inr (7, [.ref q_t_plan, .ref q_t_counter, .ref q_t_choices, .ref q_t_ringers, .ref q_t_readings, .ref q_t_sheets, .int t_traced, .int t_lastFault])), (q_t_plan, .inr (3, [.int t_plan_law, .int t_plan_count, .long t_plan_bells, .ref q_t_plan_kinds, .ref q_t_plan_comes, .ref q_t_plan_wants, .ref q_t_plan_outs])), (q_t_plan_wants, ar cI 7 t_plan_wants)]
abbrev rm_Tq_motherTells : Room := { frames := 2, cells := 0, slots := 0, locals := 42 }
noncomputable def Tq_motherTells (p_p : Int32) (t_plan_wants : Nat → Int32) (t_traced : Int32) : Option (Int32 × Int32) :=
  (Tq_leave 2 t_traced).bind fun y1 =>
  (Tq_personTells p_p t_plan_wants y1).bind fun y3 =>
  some (y3.1 + 100, y3.2)
set_option maxRecDepth 100000 in
set_option maxHeartbeats 4000000 in
theorem c_Tq_motherTells (l : Launch) (D : va_G) (cI cJ cS : ClassId) (q_t q_t_plan q_t_counter q_t_choices q_t_ringers q_t_readings q_t_sheets q_t_plan_kinds q_t_plan_comes q_t_plan_wants q_t_plan_outs : Nat) (t_traced : Int32) (t_lastFault : Int32) (t_plan_law : Int32) (t_plan_count : Int32) (t_plan_bells : Int64) (t_plan_wants : Nat → Int32) (p_p : Int32) (o : Int32 × Int32) (hM : Tq_motherTells p_p t_plan_wants t_traced = some o) : Ci l yX8_motherTells wsX8_motherTells rm_Tq_motherTells D cI cJ cS [.ref q_t, .int p_p] (w_Tq_motherTells cI cJ cS q_t q_t_plan q_t_counter q_t_choices q_t_ringers q_t_readings q_t_sheets q_t_plan_kinds q_t_plan_comes q_t_plan_wants q_t_plan_outs t_traced t_lastFault t_plan_law t_plan_count t_plan_bells t_plan_wants) (w_Tq_motherTells cI cJ cS q_t q_t_plan q_t_counter q_t_choices q_t_ringers q_t_readings q_t_sheets q_t_plan_kinds q_t_plan_comes q_t_plan_wants q_t_plan_outs o.2 t_lastFault t_plan_law t_plan_count t_plan_bells t_plan_wants) o.1 := by
  refine Ci.of (cc := cX8_motherTells) (maxL := 2) (ret := (some .int)) (by decide) rfl (Nat.le_of_ble_eq_true rfl) ?_
  intro p e s m args below meth c A ls hE
  obtain ⟨hx, hb, hr, hml, hown, hts, hlocks, hK, hA, hP, hD, hS, hl⟩ := hE
  have hown : s.vm.findClass RX8 = some m.cls := hown
  have hl : lv_has ls 2 [(0, .ref q_t), (1, .int p_p)] := hl
  unfold Tq_motherTells at hM
  refine lv_aload_n hx hb dX8_motherTells_0 rfl (lv_at hl 0 rfl) ?_
  refine lv_iconst (v := 2) hx hb dX8_motherTells_1 (by decide) ?_
  obtain ⟨y1, h2, hM⟩ := o_bd hM
  refine af_v (ws2 := (w_Tq_motherTells cI cJ cS q_t q_t_plan q_t_counter q_t_choices q_t_ringers q_t_readings q_t_sheets q_t_plan_kinds q_t_plan_comes q_t_plan_wants q_t_plan_outs y1 t_lastFault t_plan_law t_plan_count t_plan_bells t_plan_wants)) (va_runV (As := [.int 2]) (rest := []) ⟨hx, hb, hml, hown, hts⟩ (c_Tq_leave l D cI cJ cS q_t q_t_plan q_t_counter q_t_choices q_t_ringers q_t_readings q_t_sheets t_traced t_lastFault 2 y1 h2 _) (cwV 1 hts gX8_motherTells_X8_leave rfl rfl rfl (by decide +kernel) ⟨(Nat.le_of_ble_eq_true rfl), (Nat.le_of_ble_eq_true rfl)⟩) (pre_V hK hP hD [0] rfl rfl rfl rfl) rfl rfl hl.1 rfl (lv_room (Nat.le_of_ble_eq_true rfl)) dX8_motherTells_2 ⟨Nat.zero_le _, Nat.zero_le _⟩) hP hD hS hA [0] [1, 2] [2, 0, 1] rfl rfl rfl (by decide) rfl rfl (fun H locs hP hD hS => ?_)
  refine lv_aload_n hx hb dX8_motherTells_5 rfl (lv_at hl 0 rfl) ?_
  refine lv_iload_n hx hb dX8_motherTells_6 rfl (lv_at hl 1 rfl) ?_
  obtain ⟨y3, h4, hM⟩ := o_bd hM
  refine af_i (ws2 := (w_Tq_motherTells cI cJ cS q_t q_t_plan q_t_counter q_t_choices q_t_ringers q_t_readings q_t_sheets q_t_plan_kinds q_t_plan_comes q_t_plan_wants q_t_plan_outs y3.2 t_lastFault t_plan_law t_plan_count t_plan_bells t_plan_wants)) (va_runV (As := [.int p_p]) (rest := []) ⟨hx, hb, hml, hown, hts⟩ (c_Tq_personTells l D cI cJ cS q_t q_t_plan q_t_counter q_t_choices q_t_ringers q_t_readings q_t_sheets q_t_plan_kinds q_t_plan_comes q_t_plan_wants q_t_plan_outs y1 t_lastFault t_plan_law t_plan_count t_plan_bells t_plan_wants p_p y3 h4 _) (cwV 1 hts gX8_motherTells_X8_personTells rfl rfl rfl (by decide +kernel) ⟨(Nat.le_of_ble_eq_true rfl), (Nat.le_of_ble_eq_true rfl)⟩) (pre_V hK hP hD [0, 1, 2] rfl rfl rfl rfl) rfl rfl hl.1 rfl (lv_room (Nat.le_of_ble_eq_true rfl)) dX8_motherTells_7 ⟨Nat.zero_le _, Nat.zero_le _⟩) hP hD hS hA [0, 1, 2] [] [0, 1, 2] rfl rfl rfl (by decide) rfl rfl (fun H locs hP hD hS => ?_)
  refine lv_bipush (v := 100) hx hb dX8_motherTells_10 (by decide) ?_
  refine lv_iadd hx hb dX8_motherTells_12 ?_
  have hM := (Option.some.inj hM)
  subst hM
  exact rt_i hx hb hr hlocks hP hD hS dX8_motherTells_13
/-! ===== TurnQueue.cousinTells ===== -/
abbrev w_Tq_cousinTells (cI cJ cS : ClassId) (q_t : Nat) (q_t_plan : Nat) (q_t_counter : Nat) (q_t_choices : Nat) (q_t_ringers : Nat) (q_t_readings : Nat) (q_t_sheets : Nat) (q_t_plan_kinds : Nat) (q_t_plan_comes : Nat) (q_t_plan_wants : Nat) (q_t_plan_outs : Nat) (t_traced : Int32) (t_lastFault : Int32) (t_plan_law : Int32) (t_plan_count : Int32) (t_plan_bells : Int64) (t_plan_wants : Nat → Int32) : va_W := [(q_t, .inr (7, [.ref q_t_plan, .ref q_t_counter, .ref q_t_choices, .ref q_t_ringers, .ref q_t_readings, .ref q_t_sheets, .int t_traced, .int t_lastFault])), (q_t_plan, .inr (3, [.int t_plan_law, .int t_plan_count, .long t_plan_bells, .ref q_t_plan_kinds, .ref q_t_plan_comes, .ref q_t_plan_wants, .ref q_t_plan_outs])), (q_t_plan_wants, ar cI 7 t_plan_wants)]
abbrev rm_Tq_cousinTells : Room := { frames := 3, cells := 0, slots := 0, locals := 63 }
noncomputable def Tq_cousinTells (p_p : Int32) (t_plan_wants : Nat → Int32) (t_traced : Int32) : Option (Int32 × Int32) :=
  (Tq_leave 3 t_traced).bind fun y1 =>
  (Tq_motherTells p_p t_plan_wants y1).bind fun y3 =>
  (Tq_personTells p_p t_plan_wants y3.2).bind fun y5 =>
  some (y3.1 + y5.1, y5.2)
set_option maxRecDepth 100000 in
set_option maxHeartbeats 4000000 in
theorem c_Tq_cousinTells (l : Launch) (D : va_G) (cI cJ cS : ClassId) (q_t q_t_plan q_t_counter q_t_choices q_t_ringers q_t_readings q_t_sheets q_t_plan_kinds q_t_plan_comes q_t_plan_wants q_t_plan_outs : Nat) (t_traced : Int32) (t_lastFault : Int32) (t_plan_law : Int32) (t_plan_count : Int32) (t_plan_bells : Int64) (t_plan_wants : Nat → Int32) (p_p : Int32) (o : Int32 × Int32) (hM : Tq_cousinTells p_p t_plan_wants t_traced = some o) : Ci l yX8_cousinTells wsX8_cousinTells rm_Tq_cousinTells D cI cJ cS [.ref q_t, .int p_p] (w_Tq_cousinTells cI cJ cS q_t q_t_plan q_t_counter q_t_choices q_t_ringers q_t_readings q_t_sheets q_t_plan_kinds q_t_plan_comes q_t_plan_wants q_t_plan_outs t_traced t_lastFault t_plan_law t_plan_count t_plan_bells t_plan_wants) (w_Tq_cousinTells cI cJ cS q_t q_t_plan q_t_counter q_t_choices q_t_ringers q_t_readings q_t_sheets q_t_plan_kinds q_t_plan_comes q_t_plan_wants q_t_plan_outs o.2 t_lastFault t_plan_law t_plan_count t_plan_bells t_plan_wants) o.1 := by
  refine Ci.of (cc := cX8_cousinTells) (maxL := 3) (ret := (some .int)) (by decide) rfl (Nat.le_of_ble_eq_true rfl) ?_
  intro p e s m args below meth c A ls hE
  obtain ⟨hx, hb, hr, hml, hown, hts, hlocks, hK, hA, hP, hD, hS, hl⟩ := hE
  have hown : s.vm.findClass RX8 = some m.cls := hown
  have hl : lv_has ls 3 [(0, .ref q_t), (1, .int p_p)] := hl
  unfold Tq_cousinTells at hM
  refine lv_aload_n hx hb dX8_cousinTells_0 rfl (lv_at hl 0 rfl) ?_
  refine lv_iconst (v := 3) hx hb dX8_cousinTells_1 (by decide) ?_
  obtain ⟨y1, h2, hM⟩ := o_bd hM
  refine af_v (ws2 := (w_Tq_cousinTells cI cJ cS q_t q_t_plan q_t_counter q_t_choices q_t_ringers q_t_readings q_t_sheets q_t_plan_kinds q_t_plan_comes q_t_plan_wants q_t_plan_outs y1 t_lastFault t_plan_law t_plan_count t_plan_bells t_plan_wants)) (va_runV (As := [.int 3]) (rest := []) ⟨hx, hb, hml, hown, hts⟩ (c_Tq_leave l D cI cJ cS q_t q_t_plan q_t_counter q_t_choices q_t_ringers q_t_readings q_t_sheets t_traced t_lastFault 3 y1 h2 _) (cwV 1 hts gX8_cousinTells_X8_leave rfl rfl rfl (by decide +kernel) ⟨(Nat.le_of_ble_eq_true rfl), (Nat.le_of_ble_eq_true rfl)⟩) (pre_V hK hP hD [0] rfl rfl rfl rfl) rfl rfl hl.1 rfl (lv_room (Nat.le_of_ble_eq_true rfl)) dX8_cousinTells_2 ⟨Nat.zero_le _, Nat.zero_le _⟩) hP hD hS hA [0] [1, 2] [2, 0, 1] rfl rfl rfl (by decide) rfl rfl (fun H locs hP hD hS => ?_)
  refine lv_aload_n hx hb dX8_cousinTells_5 rfl (lv_at hl 0 rfl) ?_
  refine lv_iload_n hx hb dX8_cousinTells_6 rfl (lv_at hl 1 rfl) ?_
  obtain ⟨y3, h4, hM⟩ := o_bd hM
  refine af_i (ws2 := (w_Tq_cousinTells cI cJ cS q_t q_t_plan q_t_counter q_t_choices q_t_ringers q_t_readings q_t_sheets q_t_plan_kinds q_t_plan_comes q_t_plan_wants q_t_plan_outs y3.2 t_lastFault t_plan_law t_plan_count t_plan_bells t_plan_wants)) (va_runV (As := [.int p_p]) (rest := []) ⟨hx, hb, hml, hown, hts⟩ (c_Tq_motherTells l D cI cJ cS q_t q_t_plan q_t_counter q_t_choices q_t_ringers q_t_readings q_t_sheets q_t_plan_kinds q_t_plan_comes q_t_plan_wants q_t_plan_outs y1 t_lastFault t_plan_law t_plan_count t_plan_bells t_plan_wants p_p y3 h4 _) (cwV 1 hts gX8_cousinTells_X8_motherTells rfl rfl rfl (by decide +kernel) ⟨(Nat.le_of_ble_eq_true rfl), (Nat.le_of_ble_eq_true rfl)⟩) (pre_V hK hP hD [0, 1, 2] rfl rfl rfl rfl) rfl rfl hl.1 rfl (lv_room (Nat.le_of_ble_eq_true rfl)) dX8_cousinTells_7 ⟨Nat.zero_le _, Nat.zero_le _⟩) hP hD hS hA [0, 1, 2] [] [0, 1, 2] rfl rfl rfl (by decide) rfl rfl (fun H locs hP hD hS => ?_)
  refine lv_istore_n (lv' := [(2, .int y3.1), (0, .ref q_t), (1, .int p_p)]) hx hb dX8_cousinTells_10 rfl hl (Nat.le_of_ble_eq_true rfl) rfl (fun ls hl => ?_)
  refine lv_iload_n hx hb dX8_cousinTells_11 rfl (lv_at hl 0 rfl) ?_
  refine lv_aload_n hx hb dX8_cousinTells_12 rfl (lv_at hl 1 rfl) ?_
  refine lv_iload_n hx hb dX8_cousinTells_13 rfl (lv_at hl 2 rfl) ?_
  obtain ⟨y5, h6, hM⟩ := o_bd hM
  refine af_i (ws2 := (w_Tq_cousinTells cI cJ cS q_t q_t_plan q_t_counter q_t_choices q_t_ringers q_t_readings q_t_sheets q_t_plan_kinds q_t_plan_comes q_t_plan_wants q_t_plan_outs y5.2 t_lastFault t_plan_law t_plan_count t_plan_bells t_plan_wants)) (va_runV (As := [.int p_p]) (rest := [.int y3.1]) ⟨hx, hb, hml, hown, hts⟩ (c_Tq_personTells l D cI cJ cS q_t q_t_plan q_t_counter q_t_choices q_t_ringers q_t_readings q_t_sheets q_t_plan_kinds q_t_plan_comes q_t_plan_wants q_t_plan_outs y3.2 t_lastFault t_plan_law t_plan_count t_plan_bells t_plan_wants p_p y5 h6 _) (cwV 1 hts gX8_cousinTells_X8_personTells rfl rfl rfl (by decide +kernel) ⟨(Nat.le_of_ble_eq_true rfl), (Nat.le_of_ble_eq_true rfl)⟩) (pre_V hK hP hD [0, 1, 2] rfl rfl rfl rfl) rfl rfl hl.1 rfl (lv_room (Nat.le_of_ble_eq_true rfl)) dX8_cousinTells_14 ⟨Nat.zero_le _, Nat.zero_le _⟩) hP hD hS hA [0, 1, 2] [] [0, 1, 2] rfl rfl rfl (by decide) rfl rfl (fun H locs hP hD hS => ?_)
  refine lv_iadd hx hb dX8_cousinTells_17 ?_
  have hM := (Option.some.inj hM)
  subst hM
  exact rt_i hx hb hr hlocks hP hD hS dX8_cousinTells_18
/-! ===== TurnQueue.tell ===== -/
abbrev w_Tq_tell (cI cJ cS : ClassId) (q_t : Nat) (q_t_plan : Nat) (q_t_counter : Nat) (q_t_choices : Nat) (q_t_ringers : Nat) (q_t_readings : Nat) (q_t_sheets : Nat) (q_t_plan_kinds : Nat) (q_t_plan_comes : Nat) (q_t_plan_wants : Nat) (q_t_plan_outs : Nat) (t_traced : Int32) (t_lastFault : Int32) (t_plan_law : Int32) (t_plan_count : Int32) (t_plan_bells : Int64) (t_plan_kinds : Nat → Int32) (t_plan_wants : Nat → Int32) : va_W := [(q_t, .inr (7, [.ref q_t_plan, .ref q_t_counter, .ref q_t_choices, .ref q_t_ringers, .ref q_t_readings, .ref q_t_sheets, .int t_traced, .int t_lastFault])), (q_t_plan, .inr (3, [.int t_plan_law, .int t_plan_count, .long t_plan_bells, .ref q_t_plan_kinds, .ref q_t_plan_comes, .ref q_t_plan_wants, .ref q_t_plan_outs])), (q_t_plan_kinds, ar cI 7 t_plan_kinds), (q_t_plan_wants, ar cI 7 t_plan_wants)]
abbrev rm_Tq_tell : Room := { frames := 4, cells := 0, slots := 0, locals := 85 }
noncomputable def Tq_tell (p_p : Int32) (t_plan_count : Int32) (t_plan_kinds : Nat → Int32) (t_plan_wants : Nat → Int32) (t_traced : Int32) : Option (Int32 × Int32) :=
  (Pl_has p_p t_plan_count).bind fun y1 =>
  if y1 = 0 then
    some ((-1), t_traced)
  else
    if ck p_p 7 = true then
      lt (t_plan_kinds p_p.toNatClampNeg) fun y5 =>
      if y5 = 1 then
        (Tq_motherTells p_p t_plan_wants t_traced).bind fun y7 =>
        some (y7.1, y7.2)
      else
        if y5 = 2 then
          (Tq_cousinTells p_p t_plan_wants t_traced).bind fun y10 =>
          some (y10.1, y10.2)
        else
          (Tq_personTells p_p t_plan_wants t_traced).bind fun y12 =>
          some (y12.1, y12.2)
    else none
set_option maxRecDepth 100000 in
set_option maxHeartbeats 4000000 in
theorem c_Tq_tell (l : Launch) (D : va_G) (cI cJ cS : ClassId) (q_t q_t_plan q_t_counter q_t_choices q_t_ringers q_t_readings q_t_sheets q_t_plan_kinds q_t_plan_comes q_t_plan_wants q_t_plan_outs : Nat) (t_traced : Int32) (t_lastFault : Int32) (t_plan_law : Int32) (t_plan_count : Int32) (t_plan_bells : Int64) (t_plan_kinds : Nat → Int32) (t_plan_wants : Nat → Int32) (p_p : Int32) (o : Int32 × Int32) (hM : Tq_tell p_p t_plan_count t_plan_kinds t_plan_wants t_traced = some o) : Ci l yX8_tell wsX8_tell rm_Tq_tell D cI cJ cS [.ref q_t, .int p_p] (w_Tq_tell cI cJ cS q_t q_t_plan q_t_counter q_t_choices q_t_ringers q_t_readings q_t_sheets q_t_plan_kinds q_t_plan_comes q_t_plan_wants q_t_plan_outs t_traced t_lastFault t_plan_law t_plan_count t_plan_bells t_plan_kinds t_plan_wants) (w_Tq_tell cI cJ cS q_t q_t_plan q_t_counter q_t_choices q_t_ringers q_t_readings q_t_sheets q_t_plan_kinds q_t_plan_comes q_t_plan_wants q_t_plan_outs o.2 t_lastFault t_plan_law t_plan_count t_plan_bells t_plan_kinds t_plan_wants) o.1 := by
  refine Ci.of (cc := cX8_tell) (maxL := 2) (ret := (some .int)) (by decide) rfl (Nat.le_of_ble_eq_true rfl) ?_
  intro p e s m args below meth c A ls hE
  obtain ⟨hx, hb, hr, hml, hown, hts, hlocks, hK, hA, hP, hD, hS, hl⟩ := hE
  have hown : s.vm.findClass RX8 = some m.cls := hown
  have hl : lv_has ls 2 [(0, .ref q_t), (1, .int p_p)] := hl
  have iX8 : ∀ w ∈ u_ws RX8 TX8 8, w ∈ wsX8_tell := by decide +kernel
  have iX3 : ∀ w ∈ u_ws RX3 TX3 7, w ∈ wsX8_tell := by decide +kernel
  have k0 := hts (.fieldLink RX8 12 "TurnQueue" "plan" "LTurnQueue$Plan;") (by decide +kernel)
  have k1 := hts (.fieldLink RX8 102 "TurnQueue$Plan" "kinds" "[I") (by decide +kernel)
  unfold Tq_tell at hM
  refine lv_aload_n hx hb dX8_tell_0 rfl (lv_at hl 0 rfl) ?_
  refine va_get (ci := 7) (v := .ref q_t_plan) (C := RX8) (T := TX8) (N := 8) hx hb hts iX8 hown hK.1 hP 0 rfl rfl 0 (Nat.le_of_ble_eq_true rfl) k0 (fun _ h9 => h9) rfl dX8_tell_1 ?_
  refine lv_iload_n hx hb dX8_tell_4 rfl (lv_at hl 1 rfl) ?_
  obtain ⟨y1, h2, hM⟩ := o_bd hM
  refine af_i (ws2 := (w_Tq_tell cI cJ cS q_t q_t_plan q_t_counter q_t_choices q_t_ringers q_t_readings q_t_sheets q_t_plan_kinds q_t_plan_comes q_t_plan_wants q_t_plan_outs t_traced t_lastFault t_plan_law t_plan_count t_plan_bells t_plan_kinds t_plan_wants)) (va_runV (As := [.int p_p]) (rest := []) ⟨hx, hb, hml, hown, hts⟩ (c_Pl_has l D cI cJ cS q_t_plan q_t_plan_kinds q_t_plan_comes q_t_plan_wants q_t_plan_outs t_plan_law t_plan_count t_plan_bells p_p y1 h2 _) (cwV 1 hts gX8_tell_X3_has rfl rfl rfl (by decide +kernel) ⟨(Nat.le_of_ble_eq_true rfl), (Nat.le_of_ble_eq_true rfl)⟩) (pre_V hK hP hD [1] rfl rfl rfl rfl) rfl rfl hl.1 rfl (lv_room (Nat.le_of_ble_eq_true rfl)) dX8_tell_5 ⟨Nat.zero_le _, Nat.zero_le _⟩) hP hD hS hA [1] [0, 2, 3] [0, 3, 1, 2] rfl rfl rfl (by decide) rfl rfl (fun H locs hP hD hS => ?_)
  refine lv_if_ne (tgt := 13) hx hb dX8_tell_8 (by decide) (fun c3 => ?_) (fun c3 => ?_)
  · have hM := (o_if hM).2 c3
    refine lv_aload_n hx hb dX8_tell_13 rfl (lv_at hl 0 rfl) ?_
    refine va_get (ci := 7) (v := .ref q_t_plan) (C := RX8) (T := TX8) (N := 8) hx hb hts iX8 hown hK.1 hP 0 rfl rfl 0 (Nat.le_of_ble_eq_true rfl) k0 (fun _ h9 => h9) rfl dX8_tell_14 ?_
    refine va_get (ci := 3) (v := .ref q_t_plan_kinds) (C := RX3) (T := TX3) (N := 7) hx hb hts iX3 hown hK.1 hP 1 rfl rfl 3 (Nat.le_of_ble_eq_true rfl) k1 (fun _ h9 => h9) rfl dX8_tell_17 ?_
    refine lv_iload_n hx hb dX8_tell_20 rfl (lv_at hl 1 rfl) ?_
    obtain ⟨h4, hM⟩ := o_ck hM
    refine va_iald hx hb hK.1 hP 2 0 rfl rfl h4 dX8_tell_21 ?_
    refine lv_topi (fun y5 ey5 => ?_)
    have hM := o_lt hM y5 ey5
    by_cases c6 : y5 = 1
    · have hM := (o_if hM).1 c6
      refine lv_lookup (off := 32) (tgt := 54) hx hb dX8_tell_22 (by decide) (by rw [c6]; rfl) (by decide) ?_
      refine lv_aload_n hx hb dX8_tell_54 rfl (lv_at hl 0 rfl) ?_
      refine lv_iload_n hx hb dX8_tell_55 rfl (lv_at hl 1 rfl) ?_
      obtain ⟨y7, h8, hM⟩ := o_bd hM
      refine af_i (ws2 := (w_Tq_tell cI cJ cS q_t q_t_plan q_t_counter q_t_choices q_t_ringers q_t_readings q_t_sheets q_t_plan_kinds q_t_plan_comes q_t_plan_wants q_t_plan_outs y7.2 t_lastFault t_plan_law t_plan_count t_plan_bells t_plan_kinds t_plan_wants)) (va_runV (As := [.int p_p]) (rest := []) ⟨hx, hb, hml, hown, hts⟩ (c_Tq_motherTells l D cI cJ cS q_t q_t_plan q_t_counter q_t_choices q_t_ringers q_t_readings q_t_sheets q_t_plan_kinds q_t_plan_comes q_t_plan_wants q_t_plan_outs t_traced t_lastFault t_plan_law t_plan_count t_plan_bells t_plan_wants p_p y7 h8 _) (cwV 1 hts gX8_tell_X8_motherTells rfl rfl rfl (by decide +kernel) ⟨(Nat.le_of_ble_eq_true rfl), (Nat.le_of_ble_eq_true rfl)⟩) (pre_V hK hP hD [0, 1, 3] rfl rfl rfl rfl) rfl rfl hl.1 rfl (lv_room (Nat.le_of_ble_eq_true rfl)) dX8_tell_56 ⟨Nat.zero_le _, Nat.zero_le _⟩) hP hD hS hA [0, 1, 3] [2] [1, 2, 0, 3] rfl rfl rfl (by decide) rfl rfl (fun H locs hP hD hS => ?_)
      have hM := (Option.some.inj hM)
      subst hM
      exact rt_i hx hb hr hlocks hP hD hS dX8_tell_59
    have hM := (o_if hM).2 c6
    by_cases c9 : y5 = 2
    · have hM := (o_if hM).1 c9
      refine lv_lookup (off := 26) (tgt := 48) hx hb dX8_tell_22 (by decide) (by rw [c9]; rfl) (by decide) ?_
      refine lv_aload_n hx hb dX8_tell_48 rfl (lv_at hl 0 rfl) ?_
      refine lv_iload_n hx hb dX8_tell_49 rfl (lv_at hl 1 rfl) ?_
      obtain ⟨y10, h11, hM⟩ := o_bd hM
      refine af_i (ws2 := (w_Tq_tell cI cJ cS q_t q_t_plan q_t_counter q_t_choices q_t_ringers q_t_readings q_t_sheets q_t_plan_kinds q_t_plan_comes q_t_plan_wants q_t_plan_outs y10.2 t_lastFault t_plan_law t_plan_count t_plan_bells t_plan_kinds t_plan_wants)) (va_runV (As := [.int p_p]) (rest := []) ⟨hx, hb, hml, hown, hts⟩ (c_Tq_cousinTells l D cI cJ cS q_t q_t_plan q_t_counter q_t_choices q_t_ringers q_t_readings q_t_sheets q_t_plan_kinds q_t_plan_comes q_t_plan_wants q_t_plan_outs t_traced t_lastFault t_plan_law t_plan_count t_plan_bells t_plan_wants p_p y10 h11 _) (cwV 1 hts gX8_tell_X8_cousinTells rfl rfl rfl (by decide +kernel) ⟨(Nat.le_of_ble_eq_true rfl), (Nat.le_of_ble_eq_true rfl)⟩) (pre_V hK hP hD [0, 1, 3] rfl rfl rfl rfl) rfl rfl hl.1 rfl (lv_room (Nat.le_of_ble_eq_true rfl)) dX8_tell_50 ⟨Nat.zero_le _, Nat.zero_le _⟩) hP hD hS hA [0, 1, 3] [2] [1, 2, 0, 3] rfl rfl rfl (by decide) rfl rfl (fun H locs hP hD hS => ?_)
      have hM := (Option.some.inj hM)
      subst hM
      exact rt_i hx hb hr hlocks hP hD hS dX8_tell_53
    have hM := (o_if hM).2 c9
    refine lv_lookup (off := 38) (tgt := 60) hx hb dX8_tell_22 (by decide) (by show Op.lookupswitch.offset [(1, 32), (2, 26)] 38 y5.toInt = _; rw [lv_osw (a := 1) c6 rfl]; rw [lv_osw (a := 2) c9 rfl]; rfl) (by decide) ?_
    refine lv_aload_n hx hb dX8_tell_60 rfl (lv_at hl 0 rfl) ?_
    refine lv_iload_n hx hb dX8_tell_61 rfl (lv_at hl 1 rfl) ?_
    obtain ⟨y12, h13, hM⟩ := o_bd hM
    refine af_i (ws2 := (w_Tq_tell cI cJ cS q_t q_t_plan q_t_counter q_t_choices q_t_ringers q_t_readings q_t_sheets q_t_plan_kinds q_t_plan_comes q_t_plan_wants q_t_plan_outs y12.2 t_lastFault t_plan_law t_plan_count t_plan_bells t_plan_kinds t_plan_wants)) (va_runV (As := [.int p_p]) (rest := []) ⟨hx, hb, hml, hown, hts⟩ (c_Tq_personTells l D cI cJ cS q_t q_t_plan q_t_counter q_t_choices q_t_ringers q_t_readings q_t_sheets q_t_plan_kinds q_t_plan_comes q_t_plan_wants q_t_plan_outs t_traced t_lastFault t_plan_law t_plan_count t_plan_bells t_plan_wants p_p y12 h13 _) (cwV 1 hts gX8_tell_X8_personTells rfl rfl rfl (by decide +kernel) ⟨(Nat.le_of_ble_eq_true rfl), (Nat.le_of_ble_eq_true rfl)⟩) (pre_V hK hP hD [0, 1, 3] rfl rfl rfl rfl) rfl rfl hl.1 rfl (lv_room (Nat.le_of_ble_eq_true rfl)) dX8_tell_62 ⟨Nat.zero_le _, Nat.zero_le _⟩) hP hD hS hA [0, 1, 3] [2] [1, 2, 0, 3] rfl rfl rfl (by decide) rfl rfl (fun H locs hP hD hS => ?_)
    have hM := (Option.some.inj hM)
    subst hM
    exact rt_i hx hb hr hlocks hP hD hS dX8_tell_65
  · have hM := (o_if hM).1 c3
    refine lv_iconst (v := (-1)) hx hb dX8_tell_11 (by decide) ?_
    have hM := (Option.some.inj hM)
    subst hM
    exact rt_i hx hb hr hlocks hP hD hS dX8_tell_12
/-! ===== TurnQueue.greet ===== -/
abbrev w_Tq_greet (cI cJ cS : ClassId) (q_t : Nat) (q_t_plan : Nat) (q_t_counter : Nat) (q_t_choices : Nat) (q_t_ringers : Nat) (q_t_readings : Nat) (q_t_sheets : Nat) (q_t_plan_kinds : Nat) (q_t_plan_comes : Nat) (q_t_plan_wants : Nat) (q_t_plan_outs : Nat) (t_traced : Int32) (t_lastFault : Int32) (t_plan_law : Int32) (t_plan_count : Int32) (t_plan_bells : Int64) (t_plan_kinds : Nat → Int32) : va_W := [(q_t, .inr (7, [.ref q_t_plan, .ref q_t_counter, .ref q_t_choices, .ref q_t_ringers, .ref q_t_readings, .ref q_t_sheets, .int t_traced, .int t_lastFault])), (q_t_plan, .inr (3, [.int t_plan_law, .int t_plan_count, .long t_plan_bells, .ref q_t_plan_kinds, .ref q_t_plan_comes, .ref q_t_plan_wants, .ref q_t_plan_outs])), (q_t_plan_kinds, ar cI 7 t_plan_kinds)]
abbrev rm_Tq_greet : Room := { frames := 1, cells := 0, slots := 0, locals := 21 }
noncomputable def Tq_greet_j42 (p_p : Int32) (t_plan_count : Int32) (t_plan_kinds : Nat → Int32) (x2 : Int32) (s1 : Int32) (t_traced : Int32) : Option (Int32 × Int32) :=
  (Tq_leave s1 t_traced).bind fun y7 =>
  if x2 = 0 then
    some (p_p, y7)
  else
    some (90, y7)
noncomputable def Tq_greet_j31 (p_p : Int32) (t_plan_count : Int32) (t_plan_kinds : Nat → Int32) (s0 : Int32) (t_traced : Int32) : Option (Int32 × Int32) :=
  if s0 = 0 then
    Tq_greet_j42 p_p t_plan_count t_plan_kinds s0 4 t_traced
  else
    Tq_greet_j42 p_p t_plan_count t_plan_kinds s0 5 t_traced
noncomputable def Tq_greet (p_p : Int32) (t_plan_count : Int32) (t_plan_kinds : Nat → Int32) (t_traced : Int32) : Option (Int32 × Int32) :=
  (Pl_has p_p t_plan_count).bind fun y1 =>
  if y1 = 0 then
    some ((-1), t_traced)
  else
    if ck p_p 7 = true then
      if (t_plan_kinds p_p.toNatClampNeg) = 2 then
        Tq_greet_j31 p_p t_plan_count t_plan_kinds 1 t_traced
      else
        Tq_greet_j31 p_p t_plan_count t_plan_kinds 0 t_traced
    else none
set_option maxRecDepth 100000 in
set_option maxHeartbeats 4000000 in
theorem c_Tq_greet (l : Launch) (D : va_G) (cI cJ cS : ClassId) (q_t q_t_plan q_t_counter q_t_choices q_t_ringers q_t_readings q_t_sheets q_t_plan_kinds q_t_plan_comes q_t_plan_wants q_t_plan_outs : Nat) (t_traced : Int32) (t_lastFault : Int32) (t_plan_law : Int32) (t_plan_count : Int32) (t_plan_bells : Int64) (t_plan_kinds : Nat → Int32) (p_p : Int32) (o : Int32 × Int32) (hM : Tq_greet p_p t_plan_count t_plan_kinds t_traced = some o) : Ci l yX8_greet wsX8_greet rm_Tq_greet D cI cJ cS [.ref q_t, .int p_p] (w_Tq_greet cI cJ cS q_t q_t_plan q_t_counter q_t_choices q_t_ringers q_t_readings q_t_sheets q_t_plan_kinds q_t_plan_comes q_t_plan_wants q_t_plan_outs t_traced t_lastFault t_plan_law t_plan_count t_plan_bells t_plan_kinds) (w_Tq_greet cI cJ cS q_t q_t_plan q_t_counter q_t_choices q_t_ringers q_t_readings q_t_sheets q_t_plan_kinds q_t_plan_comes q_t_plan_wants q_t_plan_outs o.2 t_lastFault t_plan_law t_plan_count t_plan_bells t_plan_kinds) o.1 := by
  refine Ci.of (cc := cX8_greet) (maxL := 3) (ret := (some .int)) (by decide) rfl (Nat.le_of_ble_eq_true rfl) ?_
  intro p e s m args below meth c A ls hE
  obtain ⟨hx, hb, hr, hml, hown, hts, hlocks, hK, hA, hP, hD, hS, hl⟩ := hE
  have hown : s.vm.findClass RX8 = some m.cls := hown
  have hl : lv_has ls 3 [(0, .ref q_t), (1, .int p_p)] := hl
  have iX8 : ∀ w ∈ u_ws RX8 TX8 8, w ∈ wsX8_greet := by decide +kernel
  have iX3 : ∀ w ∈ u_ws RX3 TX3 7, w ∈ wsX8_greet := by decide +kernel
  have k0 := hts (.fieldLink RX8 12 "TurnQueue" "plan" "LTurnQueue$Plan;") (by decide +kernel)
  have k1 := hts (.fieldLink RX8 102 "TurnQueue$Plan" "kinds" "[I") (by decide +kernel)
  have J42 : ∀ (x2 : Int32) (s1 : Int32) (t_traced : Int32), Tq_greet_j42 p_p t_plan_count t_plan_kinds x2 s1 t_traced = some o → ∀ (H : Heap) (locs : List Loc), va_P D vwCl (w_Tq_greet cI cJ cS q_t q_t_plan q_t_counter q_t_choices q_t_ringers q_t_readings q_t_sheets q_t_plan_kinds q_t_plan_comes q_t_plan_wants q_t_plan_outs t_traced t_lastFault t_plan_law t_plan_count t_plan_bells t_plan_kinds) H → va_D A (w_Tq_greet cI cJ cS q_t q_t_plan q_t_counter q_t_choices q_t_ringers q_t_readings q_t_sheets q_t_plan_kinds q_t_plan_comes q_t_plan_wants q_t_plan_outs t_traced t_lastFault t_plan_law t_plan_count t_plan_bells t_plan_kinds) → va_S A s.heap H locs → ∀ ls : Array Slot, lv_has ls 3 [(1, .int p_p), (2, .int x2)] → W p l e (headSpec wsX8_greet rm_Tq_greet).room s m args below meth c H locs 0 0 (MQ below (CQi D (w_Tq_greet cI cJ cS q_t q_t_plan q_t_counter q_t_choices q_t_ringers q_t_readings q_t_sheets q_t_plan_kinds q_t_plan_comes q_t_plan_wants q_t_plan_outs o.2 t_lastFault t_plan_law t_plan_count t_plan_bells t_plan_kinds) A o.1) args s 0 0 A) (F0 m 42 ls [.int s1, .ref q_t]) := by
    intro x2 s1 t_traced hM H locs hP hD hS ls hl
    unfold Tq_greet_j42 at hM
    obtain ⟨y7, h8, hM⟩ := o_bd hM
    refine af_v (ws2 := (w_Tq_greet cI cJ cS q_t q_t_plan q_t_counter q_t_choices q_t_ringers q_t_readings q_t_sheets q_t_plan_kinds q_t_plan_comes q_t_plan_wants q_t_plan_outs y7 t_lastFault t_plan_law t_plan_count t_plan_bells t_plan_kinds)) (va_runV (As := [.int s1]) (rest := []) ⟨hx, hb, hml, hown, hts⟩ (c_Tq_leave l D cI cJ cS q_t q_t_plan q_t_counter q_t_choices q_t_ringers q_t_readings q_t_sheets t_traced t_lastFault s1 y7 h8 _) (cwV 1 hts gX8_greet_X8_leave rfl rfl rfl (by decide +kernel) ⟨(Nat.le_of_ble_eq_true rfl), (Nat.le_of_ble_eq_true rfl)⟩) (pre_V hK hP hD [0] rfl rfl rfl rfl) rfl rfl hl.1 rfl (lv_room (Nat.le_of_ble_eq_true rfl)) dX8_greet_42 ⟨Nat.zero_le _, Nat.zero_le _⟩) hP hD hS hA [0] [1, 2] [2, 0, 1] rfl rfl rfl (by decide) rfl rfl (fun H locs hP hD hS => ?_)
    refine lv_iload_n hx hb dX8_greet_45 rfl (lv_at hl 1 rfl) ?_
    refine lv_if_eq (tgt := 54) hx hb dX8_greet_46 (by decide) (fun c9 => ?_) (fun c9 => ?_)
    · have hM := (o_if hM).1 c9
      refine lv_iload_n hx hb dX8_greet_54 rfl (lv_at hl 0 rfl) ?_
      have hM := (Option.some.inj hM)
      subst hM
      exact rt_i hx hb hr hlocks hP hD hS dX8_greet_55
    · have hM := (o_if hM).2 c9
      refine lv_bipush (v := 90) hx hb dX8_greet_49 (by decide) ?_
      refine lv_goto (tgt := 55) hx hb dX8_greet_51 (by decide) ?_
      have hM := (Option.some.inj hM)
      subst hM
      exact rt_i hx hb hr hlocks hP hD hS dX8_greet_55
  have J31 : ∀ (s0 : Int32) (t_traced : Int32), Tq_greet_j31 p_p t_plan_count t_plan_kinds s0 t_traced = some o → ∀ (H : Heap) (locs : List Loc), va_P D vwCl (w_Tq_greet cI cJ cS q_t q_t_plan q_t_counter q_t_choices q_t_ringers q_t_readings q_t_sheets q_t_plan_kinds q_t_plan_comes q_t_plan_wants q_t_plan_outs t_traced t_lastFault t_plan_law t_plan_count t_plan_bells t_plan_kinds) H → va_D A (w_Tq_greet cI cJ cS q_t q_t_plan q_t_counter q_t_choices q_t_ringers q_t_readings q_t_sheets q_t_plan_kinds q_t_plan_comes q_t_plan_wants q_t_plan_outs t_traced t_lastFault t_plan_law t_plan_count t_plan_bells t_plan_kinds) → va_S A s.heap H locs → ∀ ls : Array Slot, lv_has ls 3 [(0, .ref q_t), (1, .int p_p)] → W p l e (headSpec wsX8_greet rm_Tq_greet).room s m args below meth c H locs 0 0 (MQ below (CQi D (w_Tq_greet cI cJ cS q_t q_t_plan q_t_counter q_t_choices q_t_ringers q_t_readings q_t_sheets q_t_plan_kinds q_t_plan_comes q_t_plan_wants q_t_plan_outs o.2 t_lastFault t_plan_law t_plan_count t_plan_bells t_plan_kinds) A o.1) args s 0 0 A) (F0 m 31 ls [.int s0]) := by
    intro s0 t_traced hM H locs hP hD hS ls hl
    unfold Tq_greet_j31 at hM
    refine lv_istore_n (lv' := [(2, .int s0), (0, .ref q_t), (1, .int p_p)]) hx hb dX8_greet_31 rfl hl (Nat.le_of_ble_eq_true rfl) rfl (fun ls hl => ?_)
    refine lv_aload_n hx hb dX8_greet_32 rfl (lv_at hl 1 rfl) ?_
    refine lv_iload_n hx hb dX8_greet_33 rfl (lv_at hl 0 rfl) ?_
    refine lv_if_eq (tgt := 41) hx hb dX8_greet_34 (by decide) (fun c6 => ?_) (fun c6 => ?_)
    · have hM := (o_if hM).1 c6
      refine lv_iconst (v := 4) hx hb dX8_greet_41 (by decide) ?_
      exact J42 s0 4 t_traced hM _ _ hP hD hS _ (lv_sub hl [2, 0] rfl)
    · have hM := (o_if hM).2 c6
      refine lv_iconst (v := 5) hx hb dX8_greet_37 (by decide) ?_
      refine lv_goto (tgt := 42) hx hb dX8_greet_38 (by decide) ?_
      exact J42 s0 5 t_traced hM _ _ hP hD hS _ (lv_sub hl [2, 0] rfl)
  unfold Tq_greet at hM
  refine lv_aload_n hx hb dX8_greet_0 rfl (lv_at hl 0 rfl) ?_
  refine va_get (ci := 7) (v := .ref q_t_plan) (C := RX8) (T := TX8) (N := 8) hx hb hts iX8 hown hK.1 hP 0 rfl rfl 0 (Nat.le_of_ble_eq_true rfl) k0 (fun _ h9 => h9) rfl dX8_greet_1 ?_
  refine lv_iload_n hx hb dX8_greet_4 rfl (lv_at hl 1 rfl) ?_
  obtain ⟨y1, h2, hM⟩ := o_bd hM
  refine af_i (ws2 := (w_Tq_greet cI cJ cS q_t q_t_plan q_t_counter q_t_choices q_t_ringers q_t_readings q_t_sheets q_t_plan_kinds q_t_plan_comes q_t_plan_wants q_t_plan_outs t_traced t_lastFault t_plan_law t_plan_count t_plan_bells t_plan_kinds)) (va_runV (As := [.int p_p]) (rest := []) ⟨hx, hb, hml, hown, hts⟩ (c_Pl_has l D cI cJ cS q_t_plan q_t_plan_kinds q_t_plan_comes q_t_plan_wants q_t_plan_outs t_plan_law t_plan_count t_plan_bells p_p y1 h2 _) (cwV 1 hts gX8_greet_X3_has rfl rfl rfl (by decide +kernel) ⟨(Nat.le_of_ble_eq_true rfl), (Nat.le_of_ble_eq_true rfl)⟩) (pre_V hK hP hD [1] rfl rfl rfl rfl) rfl rfl hl.1 rfl (lv_room (Nat.le_of_ble_eq_true rfl)) dX8_greet_5 ⟨Nat.zero_le _, Nat.zero_le _⟩) hP hD hS hA [1] [0, 2] [0, 2, 1] rfl rfl rfl (by decide) rfl rfl (fun H locs hP hD hS => ?_)
  refine lv_if_ne (tgt := 13) hx hb dX8_greet_8 (by decide) (fun c3 => ?_) (fun c3 => ?_)
  · have hM := (o_if hM).2 c3
    refine lv_aload_n hx hb dX8_greet_13 rfl (lv_at hl 0 rfl) ?_
    refine va_get (ci := 7) (v := .ref q_t_plan) (C := RX8) (T := TX8) (N := 8) hx hb hts iX8 hown hK.1 hP 0 rfl rfl 0 (Nat.le_of_ble_eq_true rfl) k0 (fun _ h9 => h9) rfl dX8_greet_14 ?_
    refine va_get (ci := 3) (v := .ref q_t_plan_kinds) (C := RX3) (T := TX3) (N := 7) hx hb hts iX3 hown hK.1 hP 1 rfl rfl 3 (Nat.le_of_ble_eq_true rfl) k1 (fun _ h9 => h9) rfl dX8_greet_17 ?_
    refine lv_iload_n hx hb dX8_greet_20 rfl (lv_at hl 1 rfl) ?_
    obtain ⟨h4, hM⟩ := o_ck hM
    refine va_iald hx hb hK.1 hP 2 0 rfl rfl h4 dX8_greet_21 ?_
    refine lv_iconst (v := 2) hx hb dX8_greet_22 (by decide) ?_
    refine lv_icmp_ne (tgt := 30) hx hb dX8_greet_23 (by decide) (fun c5 => ?_) (fun c5 => ?_)
    · have hM := (o_if hM).2 c5
      refine lv_iconst (v := 0) hx hb dX8_greet_30 (by decide) ?_
      exact J31 0 t_traced hM _ _ hP hD hS _ (lv_sub hl [0, 1] rfl)
    · have hM := (o_if hM).1 c5
      refine lv_iconst (v := 1) hx hb dX8_greet_26 (by decide) ?_
      refine lv_goto (tgt := 31) hx hb dX8_greet_27 (by decide) ?_
      exact J31 1 t_traced hM _ _ hP hD hS _ (lv_sub hl [0, 1] rfl)
  · have hM := (o_if hM).1 c3
    refine lv_iconst (v := (-1)) hx hb dX8_greet_11 (by decide) ?_
    have hM := (Option.some.inj hM)
    subst hM
    exact rt_i hx hb hr hlocks hP hD hS dX8_greet_12
/-! ===== TurnQueue.as ===== -/
abbrev w_Tq_as (cI cJ cS : ClassId) (q_t : Nat) (q_t_plan : Nat) (q_t_counter : Nat) (q_t_choices : Nat) (q_t_ringers : Nat) (q_t_readings : Nat) (q_t_sheets : Nat) (q_t_plan_kinds : Nat) (q_t_plan_comes : Nat) (q_t_plan_wants : Nat) (q_t_plan_outs : Nat) (t_traced : Int32) (t_lastFault : Int32) (t_plan_law : Int32) (t_plan_count : Int32) (t_plan_bells : Int64) (t_plan_kinds : Nat → Int32) : va_W := [(q_t, .inr (7, [.ref q_t_plan, .ref q_t_counter, .ref q_t_choices, .ref q_t_ringers, .ref q_t_readings, .ref q_t_sheets, .int t_traced, .int t_lastFault])), (q_t_plan, .inr (3, [.int t_plan_law, .int t_plan_count, .long t_plan_bells, .ref q_t_plan_kinds, .ref q_t_plan_comes, .ref q_t_plan_wants, .ref q_t_plan_outs])), (q_t_plan_kinds, ar cI 7 t_plan_kinds)]
abbrev rm_Tq_as : Room := { frames := 1, cells := 0, slots := 0, locals := 21 }
noncomputable def Tq_as (p_p : Int32) (p_kind : Int32) (t_plan_count : Int32) (t_plan_kinds : Nat → Int32) (t_lastFault : Int32) : Option (Int32 × Int32) :=
  (Pl_has p_p t_plan_count).bind fun y1 =>
  if y1 = 0 then
    (Tq_faultless (-1) t_lastFault).bind fun y16 =>
    some (y16.1, y16.2)
  else
    if p_kind < 0 then
      (Tq_faultless (-2) t_lastFault).bind fun y5 =>
      some (y5.1, y5.2)
    else
      if p_kind ≤ 2 then
        if ck p_p 7 = true then
          if p_kind ≤ (t_plan_kinds p_p.toNatClampNeg) then
            (Tq_faultless 1 t_lastFault).bind fun y10 =>
            some (y10.1, y10.2)
          else
            (Tq_faulted 2 t_lastFault).bind fun y12 =>
            some (y12.1, y12.2)
        else none
      else
        (Tq_faultless (-2) t_lastFault).bind fun y14 =>
        some (y14.1, y14.2)
set_option maxRecDepth 100000 in
set_option maxHeartbeats 4000000 in
theorem c_Tq_as (l : Launch) (D : va_G) (cI cJ cS : ClassId) (q_t q_t_plan q_t_counter q_t_choices q_t_ringers q_t_readings q_t_sheets q_t_plan_kinds q_t_plan_comes q_t_plan_wants q_t_plan_outs : Nat) (t_traced : Int32) (t_lastFault : Int32) (t_plan_law : Int32) (t_plan_count : Int32) (t_plan_bells : Int64) (t_plan_kinds : Nat → Int32) (p_p : Int32) (p_kind : Int32) (o : Int32 × Int32) (hM : Tq_as p_p p_kind t_plan_count t_plan_kinds t_lastFault = some o) : Ci l yX8_as wsX8_as rm_Tq_as D cI cJ cS [.ref q_t, .int p_p, .int p_kind] (w_Tq_as cI cJ cS q_t q_t_plan q_t_counter q_t_choices q_t_ringers q_t_readings q_t_sheets q_t_plan_kinds q_t_plan_comes q_t_plan_wants q_t_plan_outs t_traced t_lastFault t_plan_law t_plan_count t_plan_bells t_plan_kinds) (w_Tq_as cI cJ cS q_t q_t_plan q_t_counter q_t_choices q_t_ringers q_t_readings q_t_sheets q_t_plan_kinds q_t_plan_comes q_t_plan_wants q_t_plan_outs t_traced o.2 t_plan_law t_plan_count t_plan_bells t_plan_kinds) o.1 := by
  refine Ci.of (cc := cX8_as) (maxL := 3) (ret := (some .int)) (by decide) rfl (Nat.le_of_ble_eq_true rfl) ?_
  intro p e s m args below meth c A ls hE
  obtain ⟨hx, hb, hr, hml, hown, hts, hlocks, hK, hA, hP, hD, hS, hl⟩ := hE
  have hown : s.vm.findClass RX8 = some m.cls := hown
  have hl : lv_has ls 3 [(0, .ref q_t), (1, .int p_p), (2, .int p_kind)] := hl
  have iX8 : ∀ w ∈ u_ws RX8 TX8 8, w ∈ wsX8_as := by decide +kernel
  have iX3 : ∀ w ∈ u_ws RX3 TX3 7, w ∈ wsX8_as := by decide +kernel
  have k0 := hts (.fieldLink RX8 12 "TurnQueue" "plan" "LTurnQueue$Plan;") (by decide +kernel)
  have k1 := hts (.fieldLink RX8 102 "TurnQueue$Plan" "kinds" "[I") (by decide +kernel)
  unfold Tq_as at hM
  refine lv_aload_n hx hb dX8_as_0 rfl (lv_at hl 0 rfl) ?_
  refine va_get (ci := 7) (v := .ref q_t_plan) (C := RX8) (T := TX8) (N := 8) hx hb hts iX8 hown hK.1 hP 0 rfl rfl 0 (Nat.le_of_ble_eq_true rfl) k0 (fun _ h9 => h9) rfl dX8_as_1 ?_
  refine lv_iload_n hx hb dX8_as_4 rfl (lv_at hl 1 rfl) ?_
  obtain ⟨y1, h2, hM⟩ := o_bd hM
  refine af_i (ws2 := (w_Tq_as cI cJ cS q_t q_t_plan q_t_counter q_t_choices q_t_ringers q_t_readings q_t_sheets q_t_plan_kinds q_t_plan_comes q_t_plan_wants q_t_plan_outs t_traced t_lastFault t_plan_law t_plan_count t_plan_bells t_plan_kinds)) (va_runV (As := [.int p_p]) (rest := []) ⟨hx, hb, hml, hown, hts⟩ (c_Pl_has l D cI cJ cS q_t_plan q_t_plan_kinds q_t_plan_comes q_t_plan_wants q_t_plan_outs t_plan_law t_plan_count t_plan_bells p_p y1 h2 _) (cwV 1 hts gX8_as_X3_has rfl rfl rfl (by decide +kernel) ⟨(Nat.le_of_ble_eq_true rfl), (Nat.le_of_ble_eq_true rfl)⟩) (pre_V hK hP hD [1] rfl rfl rfl rfl) rfl rfl hl.1 rfl (lv_room (Nat.le_of_ble_eq_true rfl)) dX8_as_5 ⟨Nat.zero_le _, Nat.zero_le _⟩) hP hD hS hA [1] [0, 2] [0, 2, 1] rfl rfl rfl (by decide) rfl rfl (fun H locs hP hD hS => ?_)
  refine lv_if_ne (tgt := 17) hx hb dX8_as_8 (by decide) (fun c3 => ?_) (fun c3 => ?_)
  · have hM := (o_if hM).2 c3
    refine lv_iload_n hx hb dX8_as_17 rfl (lv_at hl 2 rfl) ?_
    refine lv_if_lt (tgt := 26) hx hb dX8_as_18 (by decide) (fun c4 => ?_) (fun c4 => ?_)
    · have hM := (o_if hM).1 c4
      refine lv_aload_n hx hb dX8_as_26 rfl (lv_at hl 0 rfl) ?_
      refine lv_bipush (v := (-2)) hx hb dX8_as_27 (by decide) ?_
      obtain ⟨y5, h6, hM⟩ := o_bd hM
      refine af_i (ws2 := (w_Tq_as cI cJ cS q_t q_t_plan q_t_counter q_t_choices q_t_ringers q_t_readings q_t_sheets q_t_plan_kinds q_t_plan_comes q_t_plan_wants q_t_plan_outs t_traced y5.2 t_plan_law t_plan_count t_plan_bells t_plan_kinds)) (va_runV (As := [.int (-2)]) (rest := []) ⟨hx, hb, hml, hown, hts⟩ (c_Tq_faultless l D cI cJ cS q_t q_t_plan q_t_counter q_t_choices q_t_ringers q_t_readings q_t_sheets t_traced t_lastFault (-2) y5 h6 _) (cwV 1 hts gX8_as_X8_faultless rfl rfl rfl (by decide +kernel) ⟨(Nat.le_of_ble_eq_true rfl), (Nat.le_of_ble_eq_true rfl)⟩) (pre_V hK hP hD [0] rfl rfl rfl rfl) rfl rfl hl.1 rfl (lv_room (Nat.le_of_ble_eq_true rfl)) dX8_as_29 ⟨Nat.zero_le _, Nat.zero_le _⟩) hP hD hS hA [0] [1, 2] [2, 0, 1] rfl rfl rfl (by decide) rfl rfl (fun H locs hP hD hS => ?_)
      have hM := (Option.some.inj hM)
      subst hM
      exact rt_i hx hb hr hlocks hP hD hS dX8_as_32
    · have hM := (o_if hM).2 c4
      refine lv_iload_n hx hb dX8_as_21 rfl (lv_at hl 2 rfl) ?_
      refine lv_iconst (v := 2) hx hb dX8_as_22 (by decide) ?_
      refine lv_icmp_le (tgt := 33) hx hb dX8_as_23 (by decide) (fun c7 => ?_) (fun c7 => ?_)
      · have hM := (o_if hM).1 c7
        refine lv_aload_n hx hb dX8_as_33 rfl (lv_at hl 0 rfl) ?_
        refine va_get (ci := 7) (v := .ref q_t_plan) (C := RX8) (T := TX8) (N := 8) hx hb hts iX8 hown hK.1 hP 0 rfl rfl 0 (Nat.le_of_ble_eq_true rfl) k0 (fun _ h9 => h9) rfl dX8_as_34 ?_
        refine va_get (ci := 3) (v := .ref q_t_plan_kinds) (C := RX3) (T := TX3) (N := 7) hx hb hts iX3 hown hK.1 hP 1 rfl rfl 3 (Nat.le_of_ble_eq_true rfl) k1 (fun _ h9 => h9) rfl dX8_as_37 ?_
        refine lv_iload_n hx hb dX8_as_40 rfl (lv_at hl 1 rfl) ?_
        obtain ⟨h8, hM⟩ := o_ck hM
        refine va_iald hx hb hK.1 hP 2 0 rfl rfl h8 dX8_as_41 ?_
        refine lv_iload_n hx hb dX8_as_42 rfl (lv_at hl 2 rfl) ?_
        refine lv_icmp_ge (tgt := 54) hx hb dX8_as_43 (by decide) (fun c9 => ?_) (fun c9 => ?_)
        · have hM := (o_if hM).1 c9
          refine lv_aload_n hx hb dX8_as_54 rfl (lv_at hl 0 rfl) ?_
          refine lv_iconst (v := 1) hx hb dX8_as_55 (by decide) ?_
          obtain ⟨y10, h11, hM⟩ := o_bd hM
          refine af_i (ws2 := (w_Tq_as cI cJ cS q_t q_t_plan q_t_counter q_t_choices q_t_ringers q_t_readings q_t_sheets q_t_plan_kinds q_t_plan_comes q_t_plan_wants q_t_plan_outs t_traced y10.2 t_plan_law t_plan_count t_plan_bells t_plan_kinds)) (va_runV (As := [.int 1]) (rest := []) ⟨hx, hb, hml, hown, hts⟩ (c_Tq_faultless l D cI cJ cS q_t q_t_plan q_t_counter q_t_choices q_t_ringers q_t_readings q_t_sheets t_traced t_lastFault 1 y10 h11 _) (cwV 1 hts gX8_as_X8_faultless rfl rfl rfl (by decide +kernel) ⟨(Nat.le_of_ble_eq_true rfl), (Nat.le_of_ble_eq_true rfl)⟩) (pre_V hK hP hD [0] rfl rfl rfl rfl) rfl rfl hl.1 rfl (lv_room (Nat.le_of_ble_eq_true rfl)) dX8_as_56 ⟨Nat.zero_le _, Nat.zero_le _⟩) hP hD hS hA [0] [1, 2] [2, 0, 1] rfl rfl rfl (by decide) rfl rfl (fun H locs hP hD hS => ?_)
          have hM := (Option.some.inj hM)
          subst hM
          exact rt_i hx hb hr hlocks hP hD hS dX8_as_59
        · have hM := (o_if hM).2 c9
          refine lv_aload_n hx hb dX8_as_46 rfl (lv_at hl 0 rfl) ?_
          refine lv_iconst (v := 2) hx hb dX8_as_47 (by decide) ?_
          obtain ⟨y12, h13, hM⟩ := o_bd hM
          refine af_i (ws2 := (w_Tq_as cI cJ cS q_t q_t_plan q_t_counter q_t_choices q_t_ringers q_t_readings q_t_sheets q_t_plan_kinds q_t_plan_comes q_t_plan_wants q_t_plan_outs t_traced y12.2 t_plan_law t_plan_count t_plan_bells t_plan_kinds)) (va_runV (As := [.int 2]) (rest := []) ⟨hx, hb, hml, hown, hts⟩ (c_Tq_faulted l D cI cJ cS q_t q_t_plan q_t_counter q_t_choices q_t_ringers q_t_readings q_t_sheets t_traced t_lastFault 2 y12 h13 _) (cwV 1 hts gX8_as_X8_faulted rfl rfl rfl (by decide +kernel) ⟨(Nat.le_of_ble_eq_true rfl), (Nat.le_of_ble_eq_true rfl)⟩) (pre_V hK hP hD [0] rfl rfl rfl rfl) rfl rfl hl.1 rfl (lv_room (Nat.le_of_ble_eq_true rfl)) dX8_as_48 ⟨Nat.zero_le _, Nat.zero_le _⟩) hP hD hS hA [0] [1, 2] [2, 0, 1] rfl rfl rfl (by decide) rfl rfl (fun H locs hP hD hS => ?_)
          refine lv_goto (tgt := 59) hx hb dX8_as_51 (by decide) ?_
          have hM := (Option.some.inj hM)
          subst hM
          exact rt_i hx hb hr hlocks hP hD hS dX8_as_59
      · have hM := (o_if hM).2 c7
        refine lv_aload_n hx hb dX8_as_26 rfl (lv_at hl 0 rfl) ?_
        refine lv_bipush (v := (-2)) hx hb dX8_as_27 (by decide) ?_
        obtain ⟨y14, h15, hM⟩ := o_bd hM
        refine af_i (ws2 := (w_Tq_as cI cJ cS q_t q_t_plan q_t_counter q_t_choices q_t_ringers q_t_readings q_t_sheets q_t_plan_kinds q_t_plan_comes q_t_plan_wants q_t_plan_outs t_traced y14.2 t_plan_law t_plan_count t_plan_bells t_plan_kinds)) (va_runV (As := [.int (-2)]) (rest := []) ⟨hx, hb, hml, hown, hts⟩ (c_Tq_faultless l D cI cJ cS q_t q_t_plan q_t_counter q_t_choices q_t_ringers q_t_readings q_t_sheets t_traced t_lastFault (-2) y14 h15 _) (cwV 1 hts gX8_as_X8_faultless rfl rfl rfl (by decide +kernel) ⟨(Nat.le_of_ble_eq_true rfl), (Nat.le_of_ble_eq_true rfl)⟩) (pre_V hK hP hD [0] rfl rfl rfl rfl) rfl rfl hl.1 rfl (lv_room (Nat.le_of_ble_eq_true rfl)) dX8_as_29 ⟨Nat.zero_le _, Nat.zero_le _⟩) hP hD hS hA [0] [1, 2] [2, 0, 1] rfl rfl rfl (by decide) rfl rfl (fun H locs hP hD hS => ?_)
        have hM := (Option.some.inj hM)
        subst hM
        exact rt_i hx hb hr hlocks hP hD hS dX8_as_32
  · have hM := (o_if hM).1 c3
    refine lv_aload_n hx hb dX8_as_11 rfl (lv_at hl 0 rfl) ?_
    refine lv_iconst (v := (-1)) hx hb dX8_as_12 (by decide) ?_
    obtain ⟨y16, h17, hM⟩ := o_bd hM
    refine af_i (ws2 := (w_Tq_as cI cJ cS q_t q_t_plan q_t_counter q_t_choices q_t_ringers q_t_readings q_t_sheets q_t_plan_kinds q_t_plan_comes q_t_plan_wants q_t_plan_outs t_traced y16.2 t_plan_law t_plan_count t_plan_bells t_plan_kinds)) (va_runV (As := [.int (-1)]) (rest := []) ⟨hx, hb, hml, hown, hts⟩ (c_Tq_faultless l D cI cJ cS q_t q_t_plan q_t_counter q_t_choices q_t_ringers q_t_readings q_t_sheets t_traced t_lastFault (-1) y16 h17 _) (cwV 1 hts gX8_as_X8_faultless rfl rfl rfl (by decide +kernel) ⟨(Nat.le_of_ble_eq_true rfl), (Nat.le_of_ble_eq_true rfl)⟩) (pre_V hK hP hD [0] rfl rfl rfl rfl) rfl rfl hl.1 rfl (lv_room (Nat.le_of_ble_eq_true rfl)) dX8_as_13 ⟨Nat.zero_le _, Nat.zero_le _⟩) hP hD hS hA [0] [1, 2] [2, 0, 1] rfl rfl rfl (by decide) rfl rfl (fun H locs hP hD hS => ?_)
    have hM := (Option.some.inj hM)
    subst hM
    exact rt_i hx hb hr hlocks hP hD hS dX8_as_16
/-! ===== TurnQueue.trace ===== -/
abbrev w_Tq_trace (cI cJ cS : ClassId) (q_t : Nat) (q_t_plan : Nat) (q_t_counter : Nat) (q_t_choices : Nat) (q_t_ringers : Nat) (q_t_readings : Nat) (q_t_sheets : Nat) (t_traced : Int32) (t_lastFault : Int32) : va_W := [(q_t, .inr (7, [.ref q_t_plan, .ref q_t_counter, .ref q_t_choices, .ref q_t_ringers, .ref q_t_readings, .ref q_t_sheets, .int t_traced, .int t_lastFault]))]
abbrev rm_Tq_trace : Room := { frames := 0, cells := 0, slots := 0, locals := 0 }
noncomputable def Tq_trace (t_traced : Int32) : Option (Int32) :=
  some t_traced
set_option maxRecDepth 100000 in
set_option maxHeartbeats 4000000 in
theorem c_Tq_trace (l : Launch) (D : va_G) (cI cJ cS : ClassId) (q_t q_t_plan q_t_counter q_t_choices q_t_ringers q_t_readings q_t_sheets : Nat) (t_traced : Int32) (t_lastFault : Int32) (o : Int32) (hM : Tq_trace t_traced = some o) : Ci l yX8_trace wsX8_trace rm_Tq_trace D cI cJ cS [.ref q_t] (w_Tq_trace cI cJ cS q_t q_t_plan q_t_counter q_t_choices q_t_ringers q_t_readings q_t_sheets t_traced t_lastFault) (w_Tq_trace cI cJ cS q_t q_t_plan q_t_counter q_t_choices q_t_ringers q_t_readings q_t_sheets t_traced t_lastFault) o := by
  refine Ci.of (cc := cX8_trace) (maxL := 1) (ret := (some .int)) (by decide) rfl (Nat.le_of_ble_eq_true rfl) ?_
  intro p e s m args below meth c A ls hE
  obtain ⟨hx, hb, hr, hml, hown, hts, hlocks, hK, hA, hP, hD, hS, hl⟩ := hE
  have hown : s.vm.findClass RX8 = some m.cls := hown
  have hl : lv_has ls 1 [(0, .ref q_t)] := hl
  have iX8 : ∀ w ∈ u_ws RX8 TX8 8, w ∈ wsX8_trace := by decide +kernel
  have k0 := hts (.fieldLink RX8 52 "TurnQueue" "traced" "I") (by decide +kernel)
  unfold Tq_trace at hM
  refine lv_aload_n hx hb dX8_trace_0 rfl (lv_at hl 0 rfl) ?_
  refine va_get (ci := 7) (v := .int t_traced) (C := RX8) (T := TX8) (N := 8) hx hb hts iX8 hown hK.1 hP 0 rfl rfl 6 (Nat.le_of_ble_eq_true rfl) k0 (fun _ h9 => h9) rfl dX8_trace_1 ?_
  have hM := (Option.some.inj hM)
  subst hM
  exact rt_i hx hb hr hlocks hP hD hS dX8_trace_4
/-! ===== TurnQueue.fault ===== -/
abbrev w_Tq_fault (cI cJ cS : ClassId) (q_t : Nat) (q_t_plan : Nat) (q_t_counter : Nat) (q_t_choices : Nat) (q_t_ringers : Nat) (q_t_readings : Nat) (q_t_sheets : Nat) (t_traced : Int32) (t_lastFault : Int32) : va_W := [(q_t, .inr (7, [.ref q_t_plan, .ref q_t_counter, .ref q_t_choices, .ref q_t_ringers, .ref q_t_readings, .ref q_t_sheets, .int t_traced, .int t_lastFault]))]
abbrev rm_Tq_fault : Room := { frames := 0, cells := 0, slots := 0, locals := 0 }
noncomputable def Tq_fault (t_lastFault : Int32) : Option (Int32) :=
  some t_lastFault
set_option maxRecDepth 100000 in
set_option maxHeartbeats 4000000 in
theorem c_Tq_fault (l : Launch) (D : va_G) (cI cJ cS : ClassId) (q_t q_t_plan q_t_counter q_t_choices q_t_ringers q_t_readings q_t_sheets : Nat) (t_traced : Int32) (t_lastFault : Int32) (o : Int32) (hM : Tq_fault t_lastFault = some o) : Ci l yX8_fault wsX8_fault rm_Tq_fault D cI cJ cS [.ref q_t] (w_Tq_fault cI cJ cS q_t q_t_plan q_t_counter q_t_choices q_t_ringers q_t_readings q_t_sheets t_traced t_lastFault) (w_Tq_fault cI cJ cS q_t q_t_plan q_t_counter q_t_choices q_t_ringers q_t_readings q_t_sheets t_traced t_lastFault) o := by
  refine Ci.of (cc := cX8_fault) (maxL := 1) (ret := (some .int)) (by decide) rfl (Nat.le_of_ble_eq_true rfl) ?_
  intro p e s m args below meth c A ls hE
  obtain ⟨hx, hb, hr, hml, hown, hts, hlocks, hK, hA, hP, hD, hS, hl⟩ := hE
  have hown : s.vm.findClass RX8 = some m.cls := hown
  have hl : lv_has ls 1 [(0, .ref q_t)] := hl
  have iX8 : ∀ w ∈ u_ws RX8 TX8 8, w ∈ wsX8_fault := by decide +kernel
  have k0 := hts (.fieldLink RX8 56 "TurnQueue" "lastFault" "I") (by decide +kernel)
  unfold Tq_fault at hM
  refine lv_aload_n hx hb dX8_fault_0 rfl (lv_at hl 0 rfl) ?_
  refine va_get (ci := 7) (v := .int t_lastFault) (C := RX8) (T := TX8) (N := 8) hx hb hts iX8 hown hK.1 hP 0 rfl rfl 7 (Nat.le_of_ble_eq_true rfl) k0 (fun _ h9 => h9) rfl dX8_fault_1 ?_
  have hM := (Option.some.inj hM)
  subst hM
  exact rt_i hx hb hr hlocks hP hD hS dX8_fault_4
/-! ===== TurnQueue.many ===== -/
abbrev w_Tq_many (cI cJ cS : ClassId) (q_t : Nat) (q_t_plan : Nat) (q_t_counter : Nat) (q_t_choices : Nat) (q_t_ringers : Nat) (q_t_readings : Nat) (q_t_sheets : Nat) (q_t_plan_kinds : Nat) (q_t_plan_comes : Nat) (q_t_plan_wants : Nat) (q_t_plan_outs : Nat) (q_t_readings_persons : Nat) (q_t_readings_minutes : Nat) (t_traced : Int32) (t_lastFault : Int32) (t_plan_law : Int32) (t_plan_count : Int32) (t_plan_bells : Int64) (t_readings_count : Int32) : va_W := [(q_t, .inr (7, [.ref q_t_plan, .ref q_t_counter, .ref q_t_choices, .ref q_t_ringers, .ref q_t_readings, .ref q_t_sheets, .int t_traced, .int t_lastFault])), (q_t_plan, .inr (3, [.int t_plan_law, .int t_plan_count, .long t_plan_bells, .ref q_t_plan_kinds, .ref q_t_plan_comes, .ref q_t_plan_wants, .ref q_t_plan_outs])), (q_t_readings, .inr (4, [.ref q_t_readings_persons, .ref q_t_readings_minutes, .int t_readings_count]))]
abbrev rm_Tq_many : Room := { frames := 1, cells := 0, slots := 0, locals := 21 }
noncomputable def Tq_many (p_what : Int32) (t_plan_law : Int32) (t_plan_count : Int32) (t_plan_bells : Int64) (t_readings_count : Int32) : Option (Int32) :=
  if p_what = 0 then
    some t_plan_count
  else
    if p_what = 1 then
      some t_plan_law
    else
      if p_what = 2 then
        (JL_bitCount t_plan_bells).bind fun y4 =>
        some y4
      else
        if p_what = 3 then
          some t_readings_count
        else
          some (-2)
set_option maxRecDepth 100000 in
set_option maxHeartbeats 4000000 in
theorem c_Tq_many (l : Launch) (D : va_G) (cI cJ cS : ClassId) (q_t q_t_plan q_t_counter q_t_choices q_t_ringers q_t_readings q_t_sheets q_t_plan_kinds q_t_plan_comes q_t_plan_wants q_t_plan_outs q_t_readings_persons q_t_readings_minutes : Nat) (t_traced : Int32) (t_lastFault : Int32) (t_plan_law : Int32) (t_plan_count : Int32) (t_plan_bells : Int64) (t_readings_count : Int32) (p_what : Int32) (o : Int32) (hM : Tq_many p_what t_plan_law t_plan_count t_plan_bells t_readings_count = some o) : Ci l yX8_many wsX8_many rm_Tq_many D cI cJ cS [.ref q_t, .int p_what] (w_Tq_many cI cJ cS q_t q_t_plan q_t_counter q_t_choices q_t_ringers q_t_readings q_t_sheets q_t_plan_kinds q_t_plan_comes q_t_plan_wants q_t_plan_outs q_t_readings_persons q_t_readings_minutes t_traced t_lastFault t_plan_law t_plan_count t_plan_bells t_readings_count) (w_Tq_many cI cJ cS q_t q_t_plan q_t_counter q_t_choices q_t_ringers q_t_readings q_t_sheets q_t_plan_kinds q_t_plan_comes q_t_plan_wants q_t_plan_outs q_t_readings_persons q_t_readings_minutes t_traced t_lastFault t_plan_law t_plan_count t_plan_bells t_readings_count) o := by
  refine Ci.of (cc := cX8_many) (maxL := 2) (ret := (some .int)) (by decide) rfl (Nat.le_of_ble_eq_true rfl) ?_
  intro p e s m args below meth c A ls hE
  obtain ⟨hx, hb, hr, hml, hown, hts, hlocks, hK, hA, hP, hD, hS, hl⟩ := hE
  have hown : s.vm.findClass RX8 = some m.cls := hown
  have hl : lv_has ls 2 [(0, .ref q_t), (1, .int p_what)] := hl
  have iX8 : ∀ w ∈ u_ws RX8 TX8 8, w ∈ wsX8_many := by decide +kernel
  have iX3 : ∀ w ∈ u_ws RX3 TX3 7, w ∈ wsX8_many := by decide +kernel
  have iX4 : ∀ w ∈ u_ws RX4 TX4 3, w ∈ wsX8_many := by decide +kernel
  have k0 := hts (.fieldLink RX8 12 "TurnQueue" "plan" "LTurnQueue$Plan;") (by decide +kernel)
  have k1 := hts (.fieldLink RX8 98 "TurnQueue$Plan" "count" "I") (by decide +kernel)
  have k2 := hts (.fieldLink RX8 250 "TurnQueue$Plan" "law" "I") (by decide +kernel)
  have k3 := hts (.fieldLink RX8 121 "TurnQueue$Plan" "bells" "J") (by decide +kernel)
  have k4 := hts (.fieldLink RX8 42 "TurnQueue" "readings" "LTurnQueue$Readings;") (by decide +kernel)
  have k5 := hts (.fieldLink RX8 95 "TurnQueue$Readings" "count" "I") (by decide +kernel)
  unfold Tq_many at hM
  refine lv_iload_n hx hb dX8_many_0 rfl (lv_at hl 1 rfl) ?_
  by_cases c1 : p_what = 0
  · have hM := (o_if hM).1 c1
    refine lv_tableIn (off := 31) (tgt := 32) hx hb dX8_many_1 (by rw [c1]; decide) (by rw [c1]; decide) (by rw [c1]; rfl) (by decide) ?_
    refine lv_aload_n hx hb dX8_many_32 rfl (lv_at hl 0 rfl) ?_
    refine va_get (ci := 7) (v := .ref q_t_plan) (C := RX8) (T := TX8) (N := 8) hx hb hts iX8 hown hK.1 hP 0 rfl rfl 0 (Nat.le_of_ble_eq_true rfl) k0 (fun _ h9 => h9) rfl dX8_many_33 ?_
    refine va_get (ci := 3) (v := .int t_plan_count) (C := RX3) (T := TX3) (N := 7) hx hb hts iX3 hown hK.1 hP 1 rfl rfl 1 (Nat.le_of_ble_eq_true rfl) k1 (fun _ h9 => h9) rfl dX8_many_36 ?_
    have hM := (Option.some.inj hM)
    subst hM
    exact rt_i hx hb hr hlocks hP hD hS dX8_many_39
  have hM := (o_if hM).2 c1
  by_cases c2 : p_what = 1
  · have hM := (o_if hM).1 c2
    refine lv_tableIn (off := 39) (tgt := 40) hx hb dX8_many_1 (by rw [c2]; decide) (by rw [c2]; decide) (by rw [c2]; rfl) (by decide) ?_
    refine lv_aload_n hx hb dX8_many_40 rfl (lv_at hl 0 rfl) ?_
    refine va_get (ci := 7) (v := .ref q_t_plan) (C := RX8) (T := TX8) (N := 8) hx hb hts iX8 hown hK.1 hP 0 rfl rfl 0 (Nat.le_of_ble_eq_true rfl) k0 (fun _ h9 => h9) rfl dX8_many_41 ?_
    refine va_get (ci := 3) (v := .int t_plan_law) (C := RX3) (T := TX3) (N := 7) hx hb hts iX3 hown hK.1 hP 1 rfl rfl 0 (Nat.le_of_ble_eq_true rfl) k2 (fun _ h9 => h9) rfl dX8_many_44 ?_
    have hM := (Option.some.inj hM)
    subst hM
    exact rt_i hx hb hr hlocks hP hD hS dX8_many_47
  have hM := (o_if hM).2 c2
  by_cases c3 : p_what = 2
  · have hM := (o_if hM).1 c3
    refine lv_tableIn (off := 47) (tgt := 48) hx hb dX8_many_1 (by rw [c3]; decide) (by rw [c3]; decide) (by rw [c3]; rfl) (by decide) ?_
    refine lv_aload_n hx hb dX8_many_48 rfl (lv_at hl 0 rfl) ?_
    refine va_get (ci := 7) (v := .ref q_t_plan) (C := RX8) (T := TX8) (N := 8) hx hb hts iX8 hown hK.1 hP 0 rfl rfl 0 (Nat.le_of_ble_eq_true rfl) k0 (fun _ h9 => h9) rfl dX8_many_49 ?_
    refine va_get (ci := 3) (v := .long t_plan_bells) (C := RX3) (T := TX3) (N := 7) hx hb hts iX3 hown hK.1 hP 1 rfl rfl 2 (Nat.le_of_ble_eq_true rfl) k3 (fun _ h9 => h9) rfl dX8_many_52 ?_
    obtain ⟨y4, h5, hM⟩ := o_bd hM
    refine af_i (ws2 := (w_Tq_many cI cJ cS q_t q_t_plan q_t_counter q_t_choices q_t_ringers q_t_readings q_t_sheets q_t_plan_kinds q_t_plan_comes q_t_plan_wants q_t_plan_outs q_t_readings_persons q_t_readings_minutes t_traced t_lastFault t_plan_law t_plan_count t_plan_bells t_readings_count)) (va_runS (As := [.long t_plan_bells]) (rest := []) ⟨hx, hb, hml, hown, hts⟩ (c_JL_bitCount l D cI cJ cS t_plan_bells y4 h5 _) (va_cwS 1 hts gX8_many_J13_bitCount_95d88 rfl rfl rfl (by decide +kernel) ⟨(Nat.le_of_ble_eq_true rfl), (Nat.le_of_ble_eq_true rfl)⟩) (pre_S hK hP hD [] rfl rfl) rfl rfl hl.1 rfl (lv_room (Nat.le_of_ble_eq_true rfl)) dX8_many_55 ⟨Nat.zero_le _, Nat.zero_le _⟩) hP hD hS hA [] [0, 1, 2] [0, 1, 2] rfl rfl rfl (by decide) rfl rfl (fun H locs hP hD hS => ?_)
    have hM := (Option.some.inj hM)
    subst hM
    exact rt_i hx hb hr hlocks hP hD hS dX8_many_58
  have hM := (o_if hM).2 c3
  by_cases c6 : p_what = 3
  · have hM := (o_if hM).1 c6
    refine lv_tableIn (off := 58) (tgt := 59) hx hb dX8_many_1 (by rw [c6]; decide) (by rw [c6]; decide) (by rw [c6]; rfl) (by decide) ?_
    refine lv_aload_n hx hb dX8_many_59 rfl (lv_at hl 0 rfl) ?_
    refine va_get (ci := 7) (v := .ref q_t_readings) (C := RX8) (T := TX8) (N := 8) hx hb hts iX8 hown hK.1 hP 0 rfl rfl 4 (Nat.le_of_ble_eq_true rfl) k4 (fun _ h9 => h9) rfl dX8_many_60 ?_
    refine va_get (ci := 4) (v := .int t_readings_count) (C := RX4) (T := TX4) (N := 3) hx hb hts iX4 hown hK.1 hP 2 rfl rfl 2 (Nat.le_of_ble_eq_true rfl) k5 (fun _ h9 => h9) rfl dX8_many_63 ?_
    have hM := (Option.some.inj hM)
    subst hM
    exact rt_i hx hb hr hlocks hP hD hS dX8_many_66
  have hM := (o_if hM).2 c6
  refine lv_tableOut (tgt := 67) hx hb dX8_many_1 (by have q0 := lv_neT c1 (a := 0) rfl; have q1 := lv_neT c2 (a := 1) rfl; have q2 := lv_neT c3 (a := 2) rfl; have q3 := lv_neT c6 (a := 3) rfl; omega) (by decide) ?_
  refine lv_bipush (v := (-2)) hx hb dX8_many_67 (by decide) ?_
  have hM := (Option.some.inj hM)
  subst hM
  exact rt_i hx hb hr hlocks hP hD hS dX8_many_69

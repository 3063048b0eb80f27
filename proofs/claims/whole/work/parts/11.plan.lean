/-! ===== TurnQueue$Plan.takeFrom ===== -/
abbrev w_Pl_takeFrom (cI cJ cS : ClassId) (q_t : Nat) (q_other : Nat) (q_t_kinds : Nat) (q_t_comes : Nat) (q_t_wants : Nat) (q_t_outs : Nat) (q_other_kinds : Nat) (q_other_comes : Nat) (q_other_wants : Nat) (q_other_outs : Nat) (t_law : Int32) (t_count : Int32) (t_bells : Int64) (t_kinds : Nat → Int32) (t_comes : Nat → Int32) (t_wants : Nat → Int32) (t_outs : Nat → Int32) (other_law : Int32) (other_count : Int32) (other_bells : Int64) (other_kinds : Nat → Int32) (other_comes : Nat → Int32) (other_wants : Nat → Int32) (other_outs : Nat → Int32) : va_W := [(q_t, .inr (3, [.int t_law, .int t_count, .long t_bells, .ref q_t_kinds, .ref q_t_comes, .ref q_t_wants, .ref q_t_outs])), (q_t_kinds, ar cI 7 t_kinds), (q_t_comes, ar cI 7 t_comes), (q_t_wants, ar cI 7 t_wants), (q_t_outs, ar cI 7 t_outs), (q_other, .inr (3, [.int other_law, .int other_count, .long other_bells, .ref q_other_kinds, .ref q_other_comes, .ref q_other_wants, .ref q_other_outs])), (q_other_kinds, ar cI 7 other_kinds), (q_other_comes, ar cI 7 other_comes), (q_other_wants, ar cI 7 other_wants), (q_other_outs, ar cI 7 other_outs)]
abbrev rm_Pl_takeFrom : Room := { frames := 0, cells := 0, slots := 0, locals := 0 }
noncomputable def Pl_takeFrom_b26 (other_law : Int32) (other_count : Int32) (other_bells : Int64) (other_kinds : Nat → Int32) (other_comes : Nat → Int32) (other_wants : Nat → Int32) (other_outs : Nat → Int32) (x2 : Int32) (t_law : Int32) (t_count : Int32) (t_bells : Int64) (t_kinds : Nat → Int32) (t_comes : Nat → Int32) (t_wants : Nat → Int32) (t_outs : Nat → Int32) : Option ((Int32 × Int32 × Int32 × Int64 × (Nat → Int32) × (Nat → Int32) × (Nat → Int32) × (Nat → Int32)) ⊕ (Int32 × Int32 × Int64 × (Nat → Int32) × (Nat → Int32) × (Nat → Int32) × (Nat → Int32))) :=
  if 7 ≤ x2 then
    some (.inr (t_law, t_count, t_bells, t_kinds, t_comes, t_wants, t_outs))
  else
    if ck x2 7 = true then
      lt (other_kinds x2.toNatClampNeg) fun y3 =>
      if ck x2 7 = true then
        if ck x2 7 = true then
          lt (other_comes x2.toNatClampNeg) fun y6 =>
          if ck x2 7 = true then
            if ck x2 7 = true then
              lt (other_wants x2.toNatClampNeg) fun y9 =>
              if ck x2 7 = true then
                if ck x2 7 = true then
                  lt (other_outs x2.toNatClampNeg) fun y12 =>
                  if ck x2 7 = true then
                    lt (x2 + 1) fun y14 =>
                    some (.inl (y14, t_law, t_count, t_bells, upd t_kinds x2.toNatClampNeg y3, upd t_comes x2.toNatClampNeg y6, upd t_wants x2.toNatClampNeg y9, upd t_outs x2.toNatClampNeg y12))
                  else none
                else none
              else none
            else none
          else none
        else none
      else none
    else none
noncomputable def Pl_takeFrom_s26 (other_law : Int32) (other_count : Int32) (other_bells : Int64) (other_kinds : Nat → Int32) (other_comes : Nat → Int32) (other_wants : Nat → Int32) (other_outs : Nat → Int32) : (Int32 × Int32 × Int32 × Int64 × (Nat → Int32) × (Nat → Int32) × (Nat → Int32) × (Nat → Int32)) → Option ((Int32 × Int32 × Int32 × Int64 × (Nat → Int32) × (Nat → Int32) × (Nat → Int32) × (Nat → Int32)) ⊕ (Int32 × Int32 × Int64 × (Nat → Int32) × (Nat → Int32) × (Nat → Int32) × (Nat → Int32))) := fun x => Pl_takeFrom_b26 other_law other_count other_bells other_kinds other_comes other_wants other_outs x.1 x.2.1 x.2.2.1 x.2.2.2.1 x.2.2.2.2.1 x.2.2.2.2.2.1 x.2.2.2.2.2.2.1 x.2.2.2.2.2.2.2
noncomputable def Pl_takeFrom_l26 (other_law : Int32) (other_count : Int32) (other_bells : Int64) (other_kinds : Nat → Int32) (other_comes : Nat → Int32) (other_wants : Nat → Int32) (other_outs : Nat → Int32) (x2 : Int32) (t_law : Int32) (t_count : Int32) (t_bells : Int64) (t_kinds : Nat → Int32) (t_comes : Nat → Int32) (t_wants : Nat → Int32) (t_outs : Nat → Int32) : Option (Int32 × Int32 × Int64 × (Nat → Int32) × (Nat → Int32) × (Nat → Int32) × (Nat → Int32)) := fin (Pl_takeFrom_s26 other_law other_count other_bells other_kinds other_comes other_wants other_outs) (x2, t_law, t_count, t_bells, t_kinds, t_comes, t_wants, t_outs)
noncomputable def Pl_takeFrom (other_law : Int32) (other_count : Int32) (other_bells : Int64) (other_kinds : Nat → Int32) (other_comes : Nat → Int32) (other_wants : Nat → Int32) (other_outs : Nat → Int32) (t_law : Int32) (t_count : Int32) (t_bells : Int64) (t_kinds : Nat → Int32) (t_comes : Nat → Int32) (t_wants : Nat → Int32) (t_outs : Nat → Int32) : Option (Int32 × Int32 × Int64 × (Nat → Int32) × (Nat → Int32) × (Nat → Int32) × (Nat → Int32)) :=
  Pl_takeFrom_l26 other_law other_count other_bells other_kinds other_comes other_wants other_outs 0 other_law other_count other_bells t_kinds t_comes t_wants t_outs
theorem Pl_takeFrom_l26_eq (other_law : Int32) (other_count : Int32) (other_bells : Int64) (other_kinds : Nat → Int32) (other_comes : Nat → Int32) (other_wants : Nat → Int32) (other_outs : Nat → Int32) (x2 : Int32) (t_law : Int32) (t_count : Int32) (t_bells : Int64) (t_kinds : Nat → Int32) (t_comes : Nat → Int32) (t_wants : Nat → Int32) (t_outs : Nat → Int32) : Pl_takeFrom_l26 other_law other_count other_bells other_kinds other_comes other_wants other_outs x2 t_law t_count t_bells t_kinds t_comes t_wants t_outs = (Pl_takeFrom_b26 other_law other_count other_bells other_kinds other_comes other_wants other_outs x2 t_law t_count t_bells t_kinds t_comes t_wants t_outs).bind (sg (fin (Pl_takeFrom_s26 other_law other_count other_bells other_kinds other_comes other_wants other_outs))) := by
  unfold Pl_takeFrom_l26
  exact fin_eq _ _
theorem Pl_takeFrom_l26_fd (other_law : Int32) (other_count : Int32) (other_bells : Int64) (other_kinds : Nat → Int32) (other_comes : Nat → Int32) (other_wants : Nat → Int32) (other_outs : Nat → Int32) (x2 : Int32) (t_law : Int32) (t_count : Int32) (t_bells : Int64) (t_kinds : Nat → Int32) (t_comes : Nat → Int32) (t_wants : Nat → Int32) (t_outs : Nat → Int32) : fin (Pl_takeFrom_s26 other_law other_count other_bells other_kinds other_comes other_wants other_outs) (x2, t_law, t_count, t_bells, t_kinds, t_comes, t_wants, t_outs) = Pl_takeFrom_l26 other_law other_count other_bells other_kinds other_comes other_wants other_outs x2 t_law t_count t_bells t_kinds t_comes t_wants t_outs := rfl
set_option maxRecDepth 100000 in
set_option maxHeartbeats 4000000 in
theorem c_Pl_takeFrom (l : Launch) (D : va_G) (cI cJ cS : ClassId) (q_t q_other q_t_kinds q_t_comes q_t_wants q_t_outs q_other_kinds q_other_comes q_other_wants q_other_outs : Nat) (t_law : Int32) (t_count : Int32) (t_bells : Int64) (t_kinds : Nat → Int32) (t_comes : Nat → Int32) (t_wants : Nat → Int32) (t_outs : Nat → Int32) (other_law : Int32) (other_count : Int32) (other_bells : Int64) (other_kinds : Nat → Int32) (other_comes : Nat → Int32) (other_wants : Nat → Int32) (other_outs : Nat → Int32) (o : Int32 × Int32 × Int64 × (Nat → Int32) × (Nat → Int32) × (Nat → Int32) × (Nat → Int32)) (hM : Pl_takeFrom other_law other_count other_bells other_kinds other_comes other_wants other_outs t_law t_count t_bells t_kinds t_comes t_wants t_outs = some o) : Cv l yX3_takeFrom wsX3_takeFrom rm_Pl_takeFrom D cI cJ cS [.ref q_t, .ref q_other] (w_Pl_takeFrom cI cJ cS q_t q_other q_t_kinds q_t_comes q_t_wants q_t_outs q_other_kinds q_other_comes q_other_wants q_other_outs t_law t_count t_bells t_kinds t_comes t_wants t_outs other_law other_count other_bells other_kinds other_comes other_wants other_outs) (w_Pl_takeFrom cI cJ cS q_t q_other q_t_kinds q_t_comes q_t_wants q_t_outs q_other_kinds q_other_comes q_other_wants q_other_outs o.1 o.2.1 o.2.2.1 o.2.2.2.1 o.2.2.2.2.1 o.2.2.2.2.2.1 o.2.2.2.2.2.2 other_law other_count other_bells other_kinds other_comes other_wants other_outs) := by
  refine Cv.of (cc := cX3_takeFrom) (maxL := 3) (ret := none) (by decide) rfl (Nat.le_of_ble_eq_true rfl) ?_
  intro p e s m args below meth c A ls hE
  obtain ⟨hx, hb, hr, hml, hown, hts, hlocks, hK, hA, hP, hD, hS, hl⟩ := hE
  have hown : s.vm.findClass RX3 = some m.cls := hown
  have hl : lv_has ls 3 [(0, .ref q_t), (1, .ref q_other)] := hl
  have iX3 : ∀ w ∈ u_ws RX3 TX3 7, w ∈ wsX3_takeFrom := by decide +kernel
  have k0 := hts (.fieldLink RX3 9 "TurnQueue$Plan" "law" "I") (by decide +kernel)
  have k1 := hts (.fieldLink RX3 15 "TurnQueue$Plan" "count" "I") (by decide +kernel)
  have k2 := hts (.fieldLink RX3 18 "TurnQueue$Plan" "bells" "J") (by decide +kernel)
  have k3 := hts (.fieldLink RX3 22 "TurnQueue$Plan" "kinds" "[I") (by decide +kernel)
  have k4 := hts (.fieldLink RX3 26 "TurnQueue$Plan" "comes" "[I") (by decide +kernel)
  have k5 := hts (.fieldLink RX3 29 "TurnQueue$Plan" "wants" "[I") (by decide +kernel)
  have k6 := hts (.fieldLink RX3 32 "TurnQueue$Plan" "outs" "[I") (by decide +kernel)
  have L26 : ∀ n : Nat, (∀ (x2 : Int32) (t_law : Int32) (t_count : Int32) (t_bells : Int64) (t_kinds : Nat → Int32) (t_comes : Nat → Int32) (t_wants : Nat → Int32) (t_outs : Nat → Int32), itr (Pl_takeFrom_s26 other_law other_count other_bells other_kinds other_comes other_wants other_outs) n (x2, t_law, t_count, t_bells, t_kinds, t_comes, t_wants, t_outs) = some o → ∀ (H : Heap) (locs : List Loc), va_P D vwCl (w_Pl_takeFrom cI cJ cS q_t q_other q_t_kinds q_t_comes q_t_wants q_t_outs q_other_kinds q_other_comes q_other_wants q_other_outs t_law t_count t_bells t_kinds t_comes t_wants t_outs other_law other_count other_bells other_kinds other_comes other_wants other_outs) H → va_D A (w_Pl_takeFrom cI cJ cS q_t q_other q_t_kinds q_t_comes q_t_wants q_t_outs q_other_kinds q_other_comes q_other_wants q_other_outs t_law t_count t_bells t_kinds t_comes t_wants t_outs other_law other_count other_bells other_kinds other_comes other_wants other_outs) → va_S A s.heap H locs → ∀ ls : Array Slot, lv_has ls 3 [(0, .ref q_t), (1, .ref q_other), (2, .int x2)] → W p l e (headSpec wsX3_takeFrom rm_Pl_takeFrom).room s m args below meth c H locs 0 0 (MQ below (CQv D (w_Pl_takeFrom cI cJ cS q_t q_other q_t_kinds q_t_comes q_t_wants q_t_outs q_other_kinds q_other_comes q_other_wants q_other_outs o.1 o.2.1 o.2.2.1 o.2.2.2.1 o.2.2.2.2.1 o.2.2.2.2.2.1 o.2.2.2.2.2.2 other_law other_count other_bells other_kinds other_comes other_wants other_outs) A) args s 0 0 A) (F0 m 26 ls [])) := by
    intro n
    induction n with
    | zero => exact fun _ _ _ _ _ _ _ _ hM => (itr_0 hM).elim
    | succ n ih =>
      intro x2 t_law t_count t_bells t_kinds t_comes t_wants t_outs hM H locs hP hD hS ls hl
      have hM : (Pl_takeFrom_b26 other_law other_count other_bells other_kinds other_comes other_wants other_outs x2 t_law t_count t_bells t_kinds t_comes t_wants t_outs).bind (sg (itr (Pl_takeFrom_s26 other_law other_count other_bells other_kinds other_comes other_wants other_outs) n)) = some o := hM
      unfold Pl_takeFrom_b26 at hM
      refine lv_iload_n hx hb dX3_takeFrom_26 rfl (lv_at hl 2 rfl) ?_
      refine lv_bipush (v := 7) hx hb dX3_takeFrom_27 (by decide) ?_
      refine lv_icmp_ge (tgt := 86) hx hb dX3_takeFrom_29 (by decide) (fun c1 => ?_) (fun c1 => ?_)
      · have hM := (s_if hM).1 c1
        have hM := (Option.some.inj (s_rt hM))
        subst hM
        exact rt_v hx hb hr hlocks hP hD hS dX3_takeFrom_86
      · have hM := (s_if hM).2 c1
        refine lv_aload_n hx hb dX3_takeFrom_32 rfl (lv_at hl 0 rfl) ?_
        refine va_get (ci := 3) (v := .ref q_t_kinds) (C := RX3) (T := TX3) (N := 7) hx hb hts iX3 hown hK.1 hP 0 rfl rfl 3 (Nat.le_of_ble_eq_true rfl) k3 (fun _ h9 => h9) rfl dX3_takeFrom_33 ?_
        refine lv_iload_n hx hb dX3_takeFrom_36 rfl (lv_at hl 2 rfl) ?_
        refine lv_aload_n hx hb dX3_takeFrom_37 rfl (lv_at hl 1 rfl) ?_
        refine va_get (ci := 3) (v := .ref q_other_kinds) (C := RX3) (T := TX3) (N := 7) hx hb hts iX3 hown hK.1 hP 5 rfl rfl 3 (Nat.le_of_ble_eq_true rfl) k3 (fun _ h9 => h9) rfl dX3_takeFrom_38 ?_
        refine lv_iload_n hx hb dX3_takeFrom_41 rfl (lv_at hl 2 rfl) ?_
        obtain ⟨h2, hM⟩ := s_ck hM
        refine va_iald hx hb hK.1 hP 6 0 rfl rfl h2 dX3_takeFrom_42 ?_
        refine lv_topi (fun y3 ey3 => ?_)
        have hM := s_lt hM y3 ey3
        obtain ⟨h4, hM⟩ := s_ck hM
        refine va_iast hx hb hK.1 hP hD hS 1 0 rfl rfl h4 dX3_takeFrom_43 (fun H locs hP hD hS => ?_)
        have hP : va_P D vwCl (w_Pl_takeFrom cI cJ cS q_t q_other q_t_kinds q_t_comes q_t_wants q_t_outs q_other_kinds q_other_comes q_other_wants q_other_outs t_law t_count t_bells (upd t_kinds x2.toNatClampNeg y3) t_comes t_wants t_outs other_law other_count other_bells other_kinds other_comes other_wants other_outs) H := hP
        have hD : va_D A (w_Pl_takeFrom cI cJ cS q_t q_other q_t_kinds q_t_comes q_t_wants q_t_outs q_other_kinds q_other_comes q_other_wants q_other_outs t_law t_count t_bells (upd t_kinds x2.toNatClampNeg y3) t_comes t_wants t_outs other_law other_count other_bells other_kinds other_comes other_wants other_outs) := hD
        refine lv_aload_n hx hb dX3_takeFrom_44 rfl (lv_at hl 0 rfl) ?_
        refine va_get (ci := 3) (v := .ref q_t_comes) (C := RX3) (T := TX3) (N := 7) hx hb hts iX3 hown hK.1 hP 0 rfl rfl 4 (Nat.le_of_ble_eq_true rfl) k4 (fun _ h9 => h9) rfl dX3_takeFrom_45 ?_
        refine lv_iload_n hx hb dX3_takeFrom_48 rfl (lv_at hl 2 rfl) ?_
        refine lv_aload_n hx hb dX3_takeFrom_49 rfl (lv_at hl 1 rfl) ?_
        refine va_get (ci := 3) (v := .ref q_other_comes) (C := RX3) (T := TX3) (N := 7) hx hb hts iX3 hown hK.1 hP 5 rfl rfl 4 (Nat.le_of_ble_eq_true rfl) k4 (fun _ h9 => h9) rfl dX3_takeFrom_50 ?_
        refine lv_iload_n hx hb dX3_takeFrom_53 rfl (lv_at hl 2 rfl) ?_
        obtain ⟨h5, hM⟩ := s_ck hM
        refine va_iald hx hb hK.1 hP 7 0 rfl rfl h5 dX3_takeFrom_54 ?_
        refine lv_topi (fun y6 ey6 => ?_)
        have hM := s_lt hM y6 ey6
        obtain ⟨h7, hM⟩ := s_ck hM
        refine va_iast hx hb hK.1 hP hD hS 2 0 rfl rfl h7 dX3_takeFrom_55 (fun H locs hP hD hS => ?_)
        have hP : va_P D vwCl (w_Pl_takeFrom cI cJ cS q_t q_other q_t_kinds q_t_comes q_t_wants q_t_outs q_other_kinds q_other_comes q_other_wants q_other_outs t_law t_count t_bells (upd t_kinds x2.toNatClampNeg y3) (upd t_comes x2.toNatClampNeg y6) t_wants t_outs other_law other_count other_bells other_kinds other_comes other_wants other_outs) H := hP
        have hD : va_D A (w_Pl_takeFrom cI cJ cS q_t q_other q_t_kinds q_t_comes q_t_wants q_t_outs q_other_kinds q_other_comes q_other_wants q_other_outs t_law t_count t_bells (upd t_kinds x2.toNatClampNeg y3) (upd t_comes x2.toNatClampNeg y6) t_wants t_outs other_law other_count other_bells other_kinds other_comes other_wants other_outs) := hD
        refine lv_aload_n hx hb dX3_takeFrom_56 rfl (lv_at hl 0 rfl) ?_
        refine va_get (ci := 3) (v := .ref q_t_wants) (C := RX3) (T := TX3) (N := 7) hx hb hts iX3 hown hK.1 hP 0 rfl rfl 5 (Nat.le_of_ble_eq_true rfl) k5 (fun _ h9 => h9) rfl dX3_takeFrom_57 ?_
        refine lv_iload_n hx hb dX3_takeFrom_60 rfl (lv_at hl 2 rfl) ?_
        refine lv_aload_n hx hb dX3_takeFrom_61 rfl (lv_at hl 1 rfl) ?_
        refine va_get (ci := 3) (v := .ref q_other_wants) (C := RX3) (T := TX3) (N := 7) hx hb hts iX3 hown hK.1 hP 5 rfl rfl 5 (Nat.le_of_ble_eq_true rfl) k5 (fun _ h9 => h9) rfl dX3_takeFrom_62 ?_
        refine lv_iload_n hx hb dX3_takeFrom_65 rfl (lv_at hl 2 rfl) ?_
        obtain ⟨h8, hM⟩ := s_ck hM
        refine va_iald hx hb hK.1 hP 8 0 rfl rfl h8 dX3_takeFrom_66 ?_
        refine lv_topi (fun y9 ey9 => ?_)
        have hM := s_lt hM y9 ey9
        obtain ⟨h10, hM⟩ := s_ck hM
        refine va_iast hx hb hK.1 hP hD hS 3 0 rfl rfl h10 dX3_takeFrom_67 (fun H locs hP hD hS => ?_)
        have hP : va_P D vwCl (w_Pl_takeFrom cI cJ cS q_t q_other q_t_kinds q_t_comes q_t_wants q_t_outs q_other_kinds q_other_comes q_other_wants q_other_outs t_law t_count t_bells (upd t_kinds x2.toNatClampNeg y3) (upd t_comes x2.toNatClampNeg y6) (upd t_wants x2.toNatClampNeg y9) t_outs other_law other_count other_bells other_kinds other_comes other_wants other_outs) H := hP
        have hD : va_D A (w_Pl_takeFrom cI cJ cS q_t q_other q_t_kinds q_t_comes q_t_wants q_t_outs q_other_kinds q_other_comes q_other_wants q_other_outs t_law t_count t_bells (upd t_kinds x2.toNatClampNeg y3) (upd t_comes x2.toNatClampNeg y6) (upd t_wants x2.toNatClampNeg y9) t_outs other_law other_count other_bells other_kinds other_comes other_wants other_outs) := hD
        refine lv_aload_n hx hb dX3_takeFrom_68 rfl (lv_at hl 0 rfl) ?_
        refine va_get (ci := 3) (v := .ref q_t_outs) (C := RX3) (T := TX3) (N := 7) hx hb hts iX3 hown hK.1 hP 0 rfl rfl 6 (Nat.le_of_ble_eq_true rfl) k6 (fun _ h9 => h9) rfl dX3_takeFrom_69 ?_
        refine lv_iload_n hx hb dX3_takeFrom_72 rfl (lv_at hl 2 rfl) ?_
        refine lv_aload_n hx hb dX3_takeFrom_73 rfl (lv_at hl 1 rfl) ?_
        refine va_get (ci := 3) (v := .ref q_other_outs) (C := RX3) (T := TX3) (N := 7) hx hb hts iX3 hown hK.1 hP 5 rfl rfl 6 (Nat.le_of_ble_eq_true rfl) k6 (fun _ h9 => h9) rfl dX3_takeFrom_74 ?_
        refine lv_iload_n hx hb dX3_takeFrom_77 rfl (lv_at hl 2 rfl) ?_
        obtain ⟨h11, hM⟩ := s_ck hM
        refine va_iald hx hb hK.1 hP 9 0 rfl rfl h11 dX3_takeFrom_78 ?_
        refine lv_topi (fun y12 ey12 => ?_)
        have hM := s_lt hM y12 ey12
        obtain ⟨h13, hM⟩ := s_ck hM
        refine va_iast hx hb hK.1 hP hD hS 4 0 rfl rfl h13 dX3_takeFrom_79 (fun H locs hP hD hS => ?_)
        have hP : va_P D vwCl (w_Pl_takeFrom cI cJ cS q_t q_other q_t_kinds q_t_comes q_t_wants q_t_outs q_other_kinds q_other_comes q_other_wants q_other_outs t_law t_count t_bells (upd t_kinds x2.toNatClampNeg y3) (upd t_comes x2.toNatClampNeg y6) (upd t_wants x2.toNatClampNeg y9) (upd t_outs x2.toNatClampNeg y12) other_law other_count other_bells other_kinds other_comes other_wants other_outs) H := hP
        have hD : va_D A (w_Pl_takeFrom cI cJ cS q_t q_other q_t_kinds q_t_comes q_t_wants q_t_outs q_other_kinds q_other_comes q_other_wants q_other_outs t_law t_count t_bells (upd t_kinds x2.toNatClampNeg y3) (upd t_comes x2.toNatClampNeg y6) (upd t_wants x2.toNatClampNeg y9) (upd t_outs x2.toNatClampNeg y12) other_law other_count other_bells other_kinds other_comes other_wants other_outs) := hD
        obtain ⟨y14, ey14⟩ : ∃ y : Int32, y = x2 + 1 := ⟨_, rfl⟩
        have hM := s_lt hM y14 ey14
        refine lv_iinc (v := y14) (lv' := [(2, .int y14), (0, .ref q_t), (1, .ref q_other)]) hx hb dX3_takeFrom_80 hl (k := 2) rfl (by rw [ey14]; rfl) (Nat.le_of_ble_eq_true rfl) rfl (fun ls hl => ?_)
        refine lv_goto (tgt := 26) hx hb dX3_takeFrom_83 (by decide) ?_
        exact ih y14 t_law t_count t_bells (upd t_kinds x2.toNatClampNeg y3) (upd t_comes x2.toNatClampNeg y6) (upd t_wants x2.toNatClampNeg y9) (upd t_outs x2.toNatClampNeg y12) (s_jp hM) _ _ hP hD hS _ (lv_sub hl [1, 2, 0] rfl)
  have J26 : ∀ (x2 : Int32) (t_law : Int32) (t_count : Int32) (t_bells : Int64) (t_kinds : Nat → Int32) (t_comes : Nat → Int32) (t_wants : Nat → Int32) (t_outs : Nat → Int32), Pl_takeFrom_l26 other_law other_count other_bells other_kinds other_comes other_wants other_outs x2 t_law t_count t_bells t_kinds t_comes t_wants t_outs = some o → ∀ (H : Heap) (locs : List Loc), va_P D vwCl (w_Pl_takeFrom cI cJ cS q_t q_other q_t_kinds q_t_comes q_t_wants q_t_outs q_other_kinds q_other_comes q_other_wants q_other_outs t_law t_count t_bells t_kinds t_comes t_wants t_outs other_law other_count other_bells other_kinds other_comes other_wants other_outs) H → va_D A (w_Pl_takeFrom cI cJ cS q_t q_other q_t_kinds q_t_comes q_t_wants q_t_outs q_other_kinds q_other_comes q_other_wants q_other_outs t_law t_count t_bells t_kinds t_comes t_wants t_outs other_law other_count other_bells other_kinds other_comes other_wants other_outs) → va_S A s.heap H locs → ∀ ls : Array Slot, lv_has ls 3 [(0, .ref q_t), (1, .ref q_other), (2, .int x2)] → W p l e (headSpec wsX3_takeFrom rm_Pl_takeFrom).room s m args below meth c H locs 0 0 (MQ below (CQv D (w_Pl_takeFrom cI cJ cS q_t q_other q_t_kinds q_t_comes q_t_wants q_t_outs q_other_kinds q_other_comes q_other_wants q_other_outs o.1 o.2.1 o.2.2.1 o.2.2.2.1 o.2.2.2.2.1 o.2.2.2.2.2.1 o.2.2.2.2.2.2 other_law other_count other_bells other_kinds other_comes other_wants other_outs) A) args s 0 0 A) (F0 m 26 ls []) := by
    intro x2 t_law t_count t_bells t_kinds t_comes t_wants t_outs hM
    unfold Pl_takeFrom_l26 at hM
    obtain ⟨n0, hM⟩ := fin_some hM
    exact (L26 n0) x2 t_law t_count t_bells t_kinds t_comes t_wants t_outs hM
  unfold Pl_takeFrom at hM
  refine lv_aload_n hx hb dX3_takeFrom_0 rfl (lv_at hl 0 rfl) ?_
  refine lv_aload_n hx hb dX3_takeFrom_1 rfl (lv_at hl 1 rfl) ?_
  refine va_get (ci := 3) (v := .int other_law) (C := RX3) (T := TX3) (N := 7) hx hb hts iX3 hown hK.1 hP 5 rfl rfl 0 (Nat.le_of_ble_eq_true rfl) k0 (fun _ h9 => h9) rfl dX3_takeFrom_2 ?_
  refine va_put (ci := 3) (v := .int other_law) (ty := .int) (C := RX3) (T := TX3) (N := 7) hx hb hts iX3 tyX3 tyX3_ok nmX3 hown hK.1 hP hD hS 0 rfl rfl 0 (Nat.le_of_ble_eq_true rfl) k0 (fun _ h9 => h9) rfl (tyX3_ok 0 (Nat.le_of_ble_eq_true rfl)) rfl rfl (Nat.le_of_ble_eq_true rfl) dX3_takeFrom_5 (fun H locs hP hD hS => ?_)
  have hP : va_P D vwCl (w_Pl_takeFrom cI cJ cS q_t q_other q_t_kinds q_t_comes q_t_wants q_t_outs q_other_kinds q_other_comes q_other_wants q_other_outs other_law t_count t_bells t_kinds t_comes t_wants t_outs other_law other_count other_bells other_kinds other_comes other_wants other_outs) H := hP
  have hD : va_D A (w_Pl_takeFrom cI cJ cS q_t q_other q_t_kinds q_t_comes q_t_wants q_t_outs q_other_kinds q_other_comes q_other_wants q_other_outs other_law t_count t_bells t_kinds t_comes t_wants t_outs other_law other_count other_bells other_kinds other_comes other_wants other_outs) := hD
  refine lv_aload_n hx hb dX3_takeFrom_8 rfl (lv_at hl 0 rfl) ?_
  refine lv_aload_n hx hb dX3_takeFrom_9 rfl (lv_at hl 1 rfl) ?_
  refine va_get (ci := 3) (v := .int other_count) (C := RX3) (T := TX3) (N := 7) hx hb hts iX3 hown hK.1 hP 5 rfl rfl 1 (Nat.le_of_ble_eq_true rfl) k1 (fun _ h9 => h9) rfl dX3_takeFrom_10 ?_
  refine va_put (ci := 3) (v := .int other_count) (ty := .int) (C := RX3) (T := TX3) (N := 7) hx hb hts iX3 tyX3 tyX3_ok nmX3 hown hK.1 hP hD hS 0 rfl rfl 1 (Nat.le_of_ble_eq_true rfl) k1 (fun _ h9 => h9) rfl (tyX3_ok 1 (Nat.le_of_ble_eq_true rfl)) rfl rfl (Nat.le_of_ble_eq_true rfl) dX3_takeFrom_13 (fun H locs hP hD hS => ?_)
  have hP : va_P D vwCl (w_Pl_takeFrom cI cJ cS q_t q_other q_t_kinds q_t_comes q_t_wants q_t_outs q_other_kinds q_other_comes q_other_wants q_other_outs other_law other_count t_bells t_kinds t_comes t_wants t_outs other_law other_count other_bells other_kinds other_comes other_wants other_outs) H := hP
  have hD : va_D A (w_Pl_takeFrom cI cJ cS q_t q_other q_t_kinds q_t_comes q_t_wants q_t_outs q_other_kinds q_other_comes q_other_wants q_other_outs other_law other_count t_bells t_kinds t_comes t_wants t_outs other_law other_count other_bells other_kinds other_comes other_wants other_outs) := hD
  refine lv_aload_n hx hb dX3_takeFrom_16 rfl (lv_at hl 0 rfl) ?_
  refine lv_aload_n hx hb dX3_takeFrom_17 rfl (lv_at hl 1 rfl) ?_
  refine va_get (ci := 3) (v := .long other_bells) (C := RX3) (T := TX3) (N := 7) hx hb hts iX3 hown hK.1 hP 5 rfl rfl 2 (Nat.le_of_ble_eq_true rfl) k2 (fun _ h9 => h9) rfl dX3_takeFrom_18 ?_
  refine va_put (ci := 3) (v := .long other_bells) (ty := .long) (C := RX3) (T := TX3) (N := 7) hx hb hts iX3 tyX3 tyX3_ok nmX3 hown hK.1 hP hD hS 0 rfl rfl 2 (Nat.le_of_ble_eq_true rfl) k2 (fun _ h9 => h9) rfl (tyX3_ok 2 (Nat.le_of_ble_eq_true rfl)) rfl rfl (Nat.le_of_ble_eq_true rfl) dX3_takeFrom_21 (fun H locs hP hD hS => ?_)
  have hP : va_P D vwCl (w_Pl_takeFrom cI cJ cS q_t q_other q_t_kinds q_t_comes q_t_wants q_t_outs q_other_kinds q_other_comes q_other_wants q_other_outs other_law other_count other_bells t_kinds t_comes t_wants t_outs other_law other_count other_bells other_kinds other_comes other_wants other_outs) H := hP
  have hD : va_D A (w_Pl_takeFrom cI cJ cS q_t q_other q_t_kinds q_t_comes q_t_wants q_t_outs q_other_kinds q_other_comes q_other_wants q_other_outs other_law other_count other_bells t_kinds t_comes t_wants t_outs other_law other_count other_bells other_kinds other_comes other_wants other_outs) := hD
  refine lv_iconst (v := 0) hx hb dX3_takeFrom_24 (by decide) ?_
  refine lv_istore_n (lv' := [(2, .int 0), (0, .ref q_t), (1, .ref q_other)]) hx hb dX3_takeFrom_25 rfl hl (Nat.le_of_ble_eq_true rfl) rfl (fun ls hl => ?_)
  exact J26 0 other_law other_count other_bells t_kinds t_comes t_wants t_outs hM _ _ hP hD hS _ (lv_sub hl [1, 2, 0] rfl)
/-! ===== TurnQueue$Plan.everybody ===== -/
abbrev w_Pl_everybody (cI cJ cS : ClassId) (q_t : Nat) (q_t_kinds : Nat) (q_t_comes : Nat) (q_t_wants : Nat) (q_t_outs : Nat) (t_law : Int32) (t_count : Int32) (t_bells : Int64) : va_W := [(q_t, .inr (3, [.int t_law, .int t_count, .long t_bells, .ref q_t_kinds, .ref q_t_comes, .ref q_t_wants, .ref q_t_outs]))]
abbrev rm_Pl_everybody : Room := { frames := 0, cells := 0, slots := 0, locals := 0 }
noncomputable def Pl_everybody (t_count : Int32) : Option (Int32) :=
  some (((1 : Int32) <<< (t_count &&& 31)) - 1)
set_option maxRecDepth 100000 in
set_option maxHeartbeats 4000000 in
theorem c_Pl_everybody (l : Launch) (D : va_G) (cI cJ cS : ClassId) (q_t q_t_kinds q_t_comes q_t_wants q_t_outs : Nat) (t_law : Int32) (t_count : Int32) (t_bells : Int64) (o : Int32) (hM : Pl_everybody t_count = some o) : Ci l yX3_everybody wsX3_everybody rm_Pl_everybody D cI cJ cS [.ref q_t] (w_Pl_everybody cI cJ cS q_t q_t_kinds q_t_comes q_t_wants q_t_outs t_law t_count t_bells) (w_Pl_everybody cI cJ cS q_t q_t_kinds q_t_comes q_t_wants q_t_outs t_law t_count t_bells) o := by
  refine Ci.of (cc := cX3_everybody) (maxL := 1) (ret := (some .int)) (by decide) rfl (Nat.le_of_ble_eq_true rfl) ?_
  intro p e s m args below meth c A ls hE
  obtain ⟨hx, hb, hr, hml, hown, hts, hlocks, hK, hA, hP, hD, hS, hl⟩ := hE
  have hown : s.vm.findClass RX3 = some m.cls := hown
  have hl : lv_has ls 1 [(0, .ref q_t)] := hl
  have iX3 : ∀ w ∈ u_ws RX3 TX3 7, w ∈ wsX3_everybody := by decide +kernel
  have k0 := hts (.fieldLink RX3 15 "TurnQueue$Plan" "count" "I") (by decide +kernel)
  unfold Pl_everybody at hM
  refine lv_iconst (v := 1) hx hb dX3_everybody_0 (by decide) ?_
  refine lv_aload_n hx hb dX3_everybody_1 rfl (lv_at hl 0 rfl) ?_
  refine va_get (ci := 3) (v := .int t_count) (C := RX3) (T := TX3) (N := 7) hx hb hts iX3 hown hK.1 hP 0 rfl rfl 1 (Nat.le_of_ble_eq_true rfl) k0 (fun _ h9 => h9) rfl dX3_everybody_2 ?_
  refine lv_ishl hx hb dX3_everybody_5 ?_
  refine lv_iconst (v := 1) hx hb dX3_everybody_6 (by decide) ?_
  refine lv_isub hx hb dX3_everybody_7 ?_
  have hM := (Option.some.inj hM)
  subst hM
  exact rt_i hx hb hr hlocks hP hD hS dX3_everybody_8
/-! ===== TurnQueue.isMinute ===== -/
abbrev w_Tq_isMinute (cI cJ cS : ClassId) : va_W := []
abbrev rm_Tq_isMinute : Room := { frames := 0, cells := 0, slots := 0, locals := 0 }
noncomputable def Tq_isMinute (p_minute : Int32) : Option (Int32) :=
  if p_minute < 0 then
    some 0
  else
    if 60 ≤ p_minute then
      some 0
    else
      some 1
set_option maxRecDepth 100000 in
set_option maxHeartbeats 4000000 in
theorem c_Tq_isMinute (l : Launch) (D : va_G) (cI cJ cS : ClassId) (p_minute : Int32) (o : Int32) (hM : Tq_isMinute p_minute = some o) : Ci l yX8_isMinute wsX8_isMinute rm_Tq_isMinute D cI cJ cS [.int p_minute] (w_Tq_isMinute cI cJ cS) (w_Tq_isMinute cI cJ cS) o := by
  refine Ci.of (cc := cX8_isMinute) (maxL := 1) (ret := (some .boolean)) (by decide) rfl (Nat.le_of_ble_eq_true rfl) ?_
  intro p e s m args below meth c A ls hE
  obtain ⟨hx, hb, hr, hml, hown, hts, hlocks, hK, hA, hP, hD, hS, hl⟩ := hE
  have hown : s.vm.findClass RX8 = some m.cls := hown
  have hl : lv_has ls 1 [(0, .int p_minute)] := hl
  unfold Tq_isMinute at hM
  refine lv_iload_n hx hb dX8_isMinute_0 rfl (lv_at hl 0 rfl) ?_
  refine lv_if_lt (tgt := 14) hx hb dX8_isMinute_1 (by decide) (fun c1 => ?_) (fun c1 => ?_)
  · have hM := (o_if hM).1 c1
    refine lv_iconst (v := 0) hx hb dX8_isMinute_14 (by decide) ?_
    have hM := (Option.some.inj hM)
    subst hM
    exact rt_z hx hb hr hlocks hP hD hS (show narrow .boolean (.int 0) = .int 0 from rfl) dX8_isMinute_15
  · have hM := (o_if hM).2 c1
    refine lv_iload_n hx hb dX8_isMinute_4 rfl (lv_at hl 0 rfl) ?_
    refine lv_bipush (v := 60) hx hb dX8_isMinute_5 (by decide) ?_
    refine lv_icmp_ge (tgt := 14) hx hb dX8_isMinute_7 (by decide) (fun c2 => ?_) (fun c2 => ?_)
    · have hM := (o_if hM).1 c2
      refine lv_iconst (v := 0) hx hb dX8_isMinute_14 (by decide) ?_
      have hM := (Option.some.inj hM)
      subst hM
      exact rt_z hx hb hr hlocks hP hD hS (show narrow .boolean (.int 0) = .int 0 from rfl) dX8_isMinute_15
    · have hM := (o_if hM).2 c2
      refine lv_iconst (v := 1) hx hb dX8_isMinute_10 (by decide) ?_
      refine lv_goto (tgt := 15) hx hb dX8_isMinute_11 (by decide) ?_
      have hM := (Option.some.inj hM)
      subst hM
      exact rt_z hx hb hr hlocks hP hD hS (show narrow .boolean (.int 1) = .int 1 from rfl) dX8_isMinute_15
/-! ===== TurnQueue.hasMinute ===== -/
abbrev w_Tq_hasMinute (cI cJ cS : ClassId) : va_W := []
abbrev rm_Tq_hasMinute : Room := { frames := 1, cells := 0, slots := 0, locals := 20 }
noncomputable def Tq_hasMinute (p_minutes : Int64) (p_minute : Int32) : Option (Int32) :=
  (Tq_isMinute p_minute).bind fun y1 =>
  if y1 = 0 then
    some 0
  else
    if (lg_cmp (((p_minutes.toUInt64 >>> (p_minute.toInt64.toUInt64 &&& Int64.toUInt64 63)).toInt64) &&& 1) 0) = 0 then
      some 0
    else
      some 1
set_option maxRecDepth 100000 in
set_option maxHeartbeats 4000000 in
theorem c_Tq_hasMinute (l : Launch) (D : va_G) (cI cJ cS : ClassId) (p_minutes : Int64) (p_minute : Int32) (o : Int32) (hM : Tq_hasMinute p_minutes p_minute = some o) : Ci l yX8_hasMinute wsX8_hasMinute rm_Tq_hasMinute D cI cJ cS [.long p_minutes, .int p_minute] (w_Tq_hasMinute cI cJ cS) (w_Tq_hasMinute cI cJ cS) o := by
  refine Ci.of (cc := cX8_hasMinute) (maxL := 3) (ret := (some .boolean)) (by decide) rfl (Nat.le_of_ble_eq_true rfl) ?_
  intro p e s m args below meth c A ls hE
  obtain ⟨hx, hb, hr, hml, hown, hts, hlocks, hK, hA, hP, hD, hS, hl⟩ := hE
  have hown : s.vm.findClass RX8 = some m.cls := hown
  have hl : lv_has ls 3 [(0, .long p_minutes), (2, .int p_minute)] := hl
  unfold Tq_hasMinute at hM
  refine lv_iload_n hx hb dX8_hasMinute_0 rfl (lv_at hl 1 rfl) ?_
  obtain ⟨y1, h2, hM⟩ := o_bd hM
  refine af_i (ws2 := (w_Tq_hasMinute cI cJ cS)) (va_runS (As := [.int p_minute]) (rest := []) ⟨hx, hb, hml, hown, hts⟩ (c_Tq_isMinute l D cI cJ cS p_minute y1 h2 _) (va_cwS 1 hts gX8_hasMinute_X8_isMinute rfl rfl rfl (by decide +kernel) ⟨(Nat.le_of_ble_eq_true rfl), (Nat.le_of_ble_eq_true rfl)⟩) (pre_S hK hP hD [] rfl rfl) rfl rfl hl.1 rfl (lv_room (Nat.le_of_ble_eq_true rfl)) dX8_hasMinute_1 ⟨Nat.zero_le _, Nat.zero_le _⟩) hP hD hS hA [] [] [] rfl rfl rfl (by decide) rfl rfl (fun H locs hP hD hS => ?_)
  refine lv_if_eq (tgt := 21) hx hb dX8_hasMinute_4 (by decide) (fun c3 => ?_) (fun c3 => ?_)
  · have hM := (o_if hM).1 c3
    refine lv_iconst (v := 0) hx hb dX8_hasMinute_21 (by decide) ?_
    have hM := (Option.some.inj hM)
    subst hM
    exact rt_z hx hb hr hlocks hP hD hS (show narrow .boolean (.int 0) = .int 0 from rfl) dX8_hasMinute_22
  · have hM := (o_if hM).2 c3
    refine lv_lload_n hx hb dX8_hasMinute_7 rfl (lv_at hl 0 rfl) ?_
    refine lv_iload_n hx hb dX8_hasMinute_8 rfl (lv_at hl 1 rfl) ?_
    refine lv_lushr (v := (p_minutes.toUInt64 >>> (p_minute.toInt64.toUInt64 &&& Int64.toUInt64 63)).toInt64) hx hb dX8_hasMinute_9 rfl ?_
    refine lv_lconst (v := 1) hx hb dX8_hasMinute_10 (by decide) ?_
    refine lv_land hx hb dX8_hasMinute_11 ?_
    refine lv_lconst (v := 0) hx hb dX8_hasMinute_12 (by decide) ?_
    refine W.lcmp hx hb dX8_hasMinute_13 ?_
    refine lv_if_eq (tgt := 21) hx hb dX8_hasMinute_14 (by decide) (fun c4 => ?_) (fun c4 => ?_)
    · have hM := (o_if hM).1 c4
      refine lv_iconst (v := 0) hx hb dX8_hasMinute_21 (by decide) ?_
      have hM := (Option.some.inj hM)
      subst hM
      exact rt_z hx hb hr hlocks hP hD hS (show narrow .boolean (.int 0) = .int 0 from rfl) dX8_hasMinute_22
    · have hM := (o_if hM).2 c4
      refine lv_iconst (v := 1) hx hb dX8_hasMinute_17 (by decide) ?_
      refine lv_goto (tgt := 22) hx hb dX8_hasMinute_18 (by decide) ?_
      have hM := (Option.some.inj hM)
      subst hM
      exact rt_z hx hb hr hlocks hP hD hS (show narrow .boolean (.int 1) = .int 1 from rfl) dX8_hasMinute_22
/-! ===== TurnQueue.hasPerson ===== -/
abbrev w_Tq_hasPerson (cI cJ cS : ClassId) : va_W := []
abbrev rm_Tq_hasPerson : Room := { frames := 0, cells := 0, slots := 0, locals := 0 }
noncomputable def Tq_hasPerson (p_persons : Int32) (p_p : Int32) : Option (Int32) :=
  if (((p_persons.toUInt32 >>> (p_p.toUInt32 &&& Int32.toUInt32 31)).toInt32) &&& 1) = 0 then
    some 0
  else
    some 1
set_option maxRecDepth 100000 in
set_option maxHeartbeats 4000000 in
theorem c_Tq_hasPerson (l : Launch) (D : va_G) (cI cJ cS : ClassId) (p_persons : Int32) (p_p : Int32) (o : Int32) (hM : Tq_hasPerson p_persons p_p = some o) : Ci l yX8_hasPerson wsX8_hasPerson rm_Tq_hasPerson D cI cJ cS [.int p_persons, .int p_p] (w_Tq_hasPerson cI cJ cS) (w_Tq_hasPerson cI cJ cS) o := by
  refine Ci.of (cc := cX8_hasPerson) (maxL := 2) (ret := (some .boolean)) (by decide) rfl (Nat.le_of_ble_eq_true rfl) ?_
  intro p e s m args below meth c A ls hE
  obtain ⟨hx, hb, hr, hml, hown, hts, hlocks, hK, hA, hP, hD, hS, hl⟩ := hE
  have hown : s.vm.findClass RX8 = some m.cls := hown
  have hl : lv_has ls 2 [(0, .int p_persons), (1, .int p_p)] := hl
  unfold Tq_hasPerson at hM
  refine lv_iload_n hx hb dX8_hasPerson_0 rfl (lv_at hl 0 rfl) ?_
  refine lv_iload_n hx hb dX8_hasPerson_1 rfl (lv_at hl 1 rfl) ?_
  refine lv_iushr (v := (p_persons.toUInt32 >>> (p_p.toUInt32 &&& Int32.toUInt32 31)).toInt32) hx hb dX8_hasPerson_2 rfl ?_
  refine lv_iconst (v := 1) hx hb dX8_hasPerson_3 (by decide) ?_
  refine lv_iand hx hb dX8_hasPerson_4 ?_
  refine lv_if_eq (tgt := 12) hx hb dX8_hasPerson_5 (by decide) (fun c1 => ?_) (fun c1 => ?_)
  · have hM := (o_if hM).1 c1
    refine lv_iconst (v := 0) hx hb dX8_hasPerson_12 (by decide) ?_
    have hM := (Option.some.inj hM)
    subst hM
    exact rt_z hx hb hr hlocks hP hD hS (show narrow .boolean (.int 0) = .int 0 from rfl) dX8_hasPerson_13
  · have hM := (o_if hM).2 c1
    refine lv_iconst (v := 1) hx hb dX8_hasPerson_8 (by decide) ?_
    refine lv_goto (tgt := 13) hx hb dX8_hasPerson_9 (by decide) ?_
    have hM := (Option.some.inj hM)
    subst hM
    exact rt_z hx hb hr hlocks hP hD hS (show narrow .boolean (.int 1) = .int 1 from rfl) dX8_hasPerson_13
/-! ===== TurnQueue$Plan.isNone ===== -/
abbrev w_Pl_isNone (cI cJ cS : ClassId) (q_t : Nat) (q_t_kinds : Nat) (q_t_comes : Nat) (q_t_wants : Nat) (q_t_outs : Nat) (t_law : Int32) (t_count : Int32) (t_bells : Int64) : va_W := [(q_t, .inr (3, [.int t_law, .int t_count, .long t_bells, .ref q_t_kinds, .ref q_t_comes, .ref q_t_wants, .ref q_t_outs]))]
abbrev rm_Pl_isNone : Room := { frames := 0, cells := 0, slots := 0, locals := 0 }
noncomputable def Pl_isNone (t_count : Int32) : Option (Int32) :=
  if t_count = 0 then
    some 1
  else
    some 0
set_option maxRecDepth 100000 in
set_option maxHeartbeats 4000000 in
theorem c_Pl_isNone (l : Launch) (D : va_G) (cI cJ cS : ClassId) (q_t q_t_kinds q_t_comes q_t_wants q_t_outs : Nat) (t_law : Int32) (t_count : Int32) (t_bells : Int64) (o : Int32) (hM : Pl_isNone t_count = some o) : Ci l yX3_isNone wsX3_isNone rm_Pl_isNone D cI cJ cS [.ref q_t] (w_Pl_isNone cI cJ cS q_t q_t_kinds q_t_comes q_t_wants q_t_outs t_law t_count t_bells) (w_Pl_isNone cI cJ cS q_t q_t_kinds q_t_comes q_t_wants q_t_outs t_law t_count t_bells) o := by
  refine Ci.of (cc := cX3_isNone) (maxL := 1) (ret := (some .boolean)) (by decide) rfl (Nat.le_of_ble_eq_true rfl) ?_
  intro p e s m args below meth c A ls hE
  obtain ⟨hx, hb, hr, hml, hown, hts, hlocks, hK, hA, hP, hD, hS, hl⟩ := hE
  have hown : s.vm.findClass RX3 = some m.cls := hown
  have hl : lv_has ls 1 [(0, .ref q_t)] := hl
  have iX3 : ∀ w ∈ u_ws RX3 TX3 7, w ∈ wsX3_isNone := by decide +kernel
  have k0 := hts (.fieldLink RX3 15 "TurnQueue$Plan" "count" "I") (by decide +kernel)
  unfold Pl_isNone at hM
  refine lv_aload_n hx hb dX3_isNone_0 rfl (lv_at hl 0 rfl) ?_
  refine va_get (ci := 3) (v := .int t_count) (C := RX3) (T := TX3) (N := 7) hx hb hts iX3 hown hK.1 hP 0 rfl rfl 1 (Nat.le_of_ble_eq_true rfl) k0 (fun _ h9 => h9) rfl dX3_isNone_1 ?_
  refine lv_if_ne (tgt := 11) hx hb dX3_isNone_4 (by decide) (fun c1 => ?_) (fun c1 => ?_)
  · have hM := (o_if hM).2 c1
    refine lv_iconst (v := 0) hx hb dX3_isNone_11 (by decide) ?_
    have hM := (Option.some.inj hM)
    subst hM
    exact rt_z hx hb hr hlocks hP hD hS (show narrow .boolean (.int 0) = .int 0 from rfl) dX3_isNone_12
  · have hM := (o_if hM).1 c1
    refine lv_iconst (v := 1) hx hb dX3_isNone_7 (by decide) ?_
    refine lv_goto (tgt := 12) hx hb dX3_isNone_8 (by decide) ?_
    have hM := (Option.some.inj hM)
    subst hM
    exact rt_z hx hb hr hlocks hP hD hS (show narrow .boolean (.int 1) = .int 1 from rfl) dX3_isNone_12
/-! ===== TurnQueue$Plan.has ===== -/
abbrev w_Pl_has (cI cJ cS : ClassId) (q_t : Nat) (q_t_kinds : Nat) (q_t_comes : Nat) (q_t_wants : Nat) (q_t_outs : Nat) (t_law : Int32) (t_count : Int32) (t_bells : Int64) : va_W := [(q_t, .inr (3, [.int t_law, .int t_count, .long t_bells, .ref q_t_kinds, .ref q_t_comes, .ref q_t_wants, .ref q_t_outs]))]
abbrev rm_Pl_has : Room := { frames := 0, cells := 0, slots := 0, locals := 0 }
noncomputable def Pl_has (p_p : Int32) (t_count : Int32) : Option (Int32) :=
  if p_p < 0 then
    some 0
  else
    if t_count ≤ p_p then
      some 0
    else
      some 1
set_option maxRecDepth 100000 in
set_option maxHeartbeats 4000000 in
theorem c_Pl_has (l : Launch) (D : va_G) (cI cJ cS : ClassId) (q_t q_t_kinds q_t_comes q_t_wants q_t_outs : Nat) (t_law : Int32) (t_count : Int32) (t_bells : Int64) (p_p : Int32) (o : Int32) (hM : Pl_has p_p t_count = some o) : Ci l yX3_has wsX3_has rm_Pl_has D cI cJ cS [.ref q_t, .int p_p] (w_Pl_has cI cJ cS q_t q_t_kinds q_t_comes q_t_wants q_t_outs t_law t_count t_bells) (w_Pl_has cI cJ cS q_t q_t_kinds q_t_comes q_t_wants q_t_outs t_law t_count t_bells) o := by
  refine Ci.of (cc := cX3_has) (maxL := 2) (ret := (some .boolean)) (by decide) rfl (Nat.le_of_ble_eq_true rfl) ?_
  intro p e s m args below meth c A ls hE
  obtain ⟨hx, hb, hr, hml, hown, hts, hlocks, hK, hA, hP, hD, hS, hl⟩ := hE
  have hown : s.vm.findClass RX3 = some m.cls := hown
  have hl : lv_has ls 2 [(0, .ref q_t), (1, .int p_p)] := hl
  have iX3 : ∀ w ∈ u_ws RX3 TX3 7, w ∈ wsX3_has := by decide +kernel
  have k0 := hts (.fieldLink RX3 15 "TurnQueue$Plan" "count" "I") (by decide +kernel)
  unfold Pl_has at hM
  refine lv_iload_n hx hb dX3_has_0 rfl (lv_at hl 1 rfl) ?_
  refine lv_if_lt (tgt := 16) hx hb dX3_has_1 (by decide) (fun c1 => ?_) (fun c1 => ?_)
  · have hM := (o_if hM).1 c1
    refine lv_iconst (v := 0) hx hb dX3_has_16 (by decide) ?_
    have hM := (Option.some.inj hM)
    subst hM
    exact rt_z hx hb hr hlocks hP hD hS (show narrow .boolean (.int 0) = .int 0 from rfl) dX3_has_17
  · have hM := (o_if hM).2 c1
    refine lv_iload_n hx hb dX3_has_4 rfl (lv_at hl 1 rfl) ?_
    refine lv_aload_n hx hb dX3_has_5 rfl (lv_at hl 0 rfl) ?_
    refine va_get (ci := 3) (v := .int t_count) (C := RX3) (T := TX3) (N := 7) hx hb hts iX3 hown hK.1 hP 0 rfl rfl 1 (Nat.le_of_ble_eq_true rfl) k0 (fun _ h9 => h9) rfl dX3_has_6 ?_
    refine lv_icmp_ge (tgt := 16) hx hb dX3_has_9 (by decide) (fun c2 => ?_) (fun c2 => ?_)
    · have hM := (o_if hM).1 c2
      refine lv_iconst (v := 0) hx hb dX3_has_16 (by decide) ?_
      have hM := (Option.some.inj hM)
      subst hM
      exact rt_z hx hb hr hlocks hP hD hS (show narrow .boolean (.int 0) = .int 0 from rfl) dX3_has_17
    · have hM := (o_if hM).2 c2
      refine lv_iconst (v := 1) hx hb dX3_has_12 (by decide) ?_
      refine lv_goto (tgt := 17) hx hb dX3_has_13 (by decide) ?_
      have hM := (Option.some.inj hM)
      subst hM
      exact rt_z hx hb hr hlocks hP hD hS (show narrow .boolean (.int 1) = .int 1 from rfl) dX3_has_17
/-! ===== TurnQueue$Readings.add ===== -/
abbrev w_Re_add (cI cJ cS : ClassId) (q_t : Nat) (q_t_persons : Nat) (q_t_minutes : Nat) (t_count : Int32) (t_persons : Nat → Int32) (t_minutes : Nat → Int32) : va_W := [(q_t, .inr (4, [.ref q_t_persons, .ref q_t_minutes, .int t_count])), (q_t_persons, ar cI 8 t_persons), (q_t_minutes, ar cI 8 t_minutes)]
abbrev rm_Re_add : Room := { frames := 0, cells := 0, slots := 0, locals := 0 }
noncomputable def Re_add (p_p : Int32) (p_minute : Int32) (t_count : Int32) (t_persons : Nat → Int32) (t_minutes : Nat → Int32) : Option (Int32 × Int32 × (Nat → Int32) × (Nat → Int32)) :=
  if t_count < 8 then
    if ck t_count 8 = true then
      if ck t_count 8 = true then
        lt (t_count + 1) fun y4 =>
        some (y4 - 1, y4, upd t_persons t_count.toNatClampNeg p_p, upd t_minutes t_count.toNatClampNeg p_minute)
      else none
    else none
  else
    some ((-4), t_count, t_persons, t_minutes)
set_option maxRecDepth 100000 in
set_option maxHeartbeats 4000000 in
theorem c_Re_add (l : Launch) (D : va_G) (cI cJ cS : ClassId) (q_t q_t_persons q_t_minutes : Nat) (t_count : Int32) (t_persons : Nat → Int32) (t_minutes : Nat → Int32) (p_p : Int32) (p_minute : Int32) (o : Int32 × Int32 × (Nat → Int32) × (Nat → Int32)) (hM : Re_add p_p p_minute t_count t_persons t_minutes = some o) : Ci l yX4_add wsX4_add rm_Re_add D cI cJ cS [.ref q_t, .int p_p, .int p_minute] (w_Re_add cI cJ cS q_t q_t_persons q_t_minutes t_count t_persons t_minutes) (w_Re_add cI cJ cS q_t q_t_persons q_t_minutes o.2.1 o.2.2.1 o.2.2.2) o.1 := by
  refine Ci.of (cc := cX4_add) (maxL := 3) (ret := (some .int)) (by decide) rfl (Nat.le_of_ble_eq_true rfl) ?_
  intro p e s m args below meth c A ls hE
  obtain ⟨hx, hb, hr, hml, hown, hts, hlocks, hK, hA, hP, hD, hS, hl⟩ := hE
  have hown : s.vm.findClass RX4 = some m.cls := hown
  have hl : lv_has ls 3 [(0, .ref q_t), (1, .int p_p), (2, .int p_minute)] := hl
  have iX4 : ∀ w ∈ u_ws RX4 TX4 3, w ∈ wsX4_add := by decide +kernel
  have k0 := hts (.fieldLink RX4 18 "TurnQueue$Readings" "count" "I") (by decide +kernel)
  have k1 := hts (.fieldLink RX4 9 "TurnQueue$Readings" "persons" "[I") (by decide +kernel)
  have k2 := hts (.fieldLink RX4 15 "TurnQueue$Readings" "minutes" "[I") (by decide +kernel)
  unfold Re_add at hM
  refine lv_aload_n hx hb dX4_add_0 rfl (lv_at hl 0 rfl) ?_
  refine va_get (ci := 4) (v := .int t_count) (C := RX4) (T := TX4) (N := 3) hx hb hts iX4 hown hK.1 hP 0 rfl rfl 2 (Nat.le_of_ble_eq_true rfl) k0 (fun _ h9 => h9) rfl dX4_add_1 ?_
  refine lv_bipush (v := 8) hx hb dX4_add_4 (by decide) ?_
  refine lv_icmp_lt (tgt := 12) hx hb dX4_add_6 (by decide) (fun c1 => ?_) (fun c1 => ?_)
  · have hM := (o_if hM).1 c1
    refine lv_aload_n hx hb dX4_add_12 rfl (lv_at hl 0 rfl) ?_
    refine va_get (ci := 4) (v := .ref q_t_persons) (C := RX4) (T := TX4) (N := 3) hx hb hts iX4 hown hK.1 hP 0 rfl rfl 0 (Nat.le_of_ble_eq_true rfl) k1 (fun _ h9 => h9) rfl dX4_add_13 ?_
    refine lv_aload_n hx hb dX4_add_16 rfl (lv_at hl 0 rfl) ?_
    refine va_get (ci := 4) (v := .int t_count) (C := RX4) (T := TX4) (N := 3) hx hb hts iX4 hown hK.1 hP 0 rfl rfl 2 (Nat.le_of_ble_eq_true rfl) k0 (fun _ h9 => h9) rfl dX4_add_17 ?_
    refine lv_iload_n hx hb dX4_add_20 rfl (lv_at hl 1 rfl) ?_
    obtain ⟨h2, hM⟩ := o_ck hM
    refine va_iast hx hb hK.1 hP hD hS 1 0 rfl rfl h2 dX4_add_21 (fun H locs hP hD hS => ?_)
    have hP : va_P D vwCl (w_Re_add cI cJ cS q_t q_t_persons q_t_minutes t_count (upd t_persons t_count.toNatClampNeg p_p) t_minutes) H := hP
    have hD : va_D A (w_Re_add cI cJ cS q_t q_t_persons q_t_minutes t_count (upd t_persons t_count.toNatClampNeg p_p) t_minutes) := hD
    refine lv_aload_n hx hb dX4_add_22 rfl (lv_at hl 0 rfl) ?_
    refine va_get (ci := 4) (v := .ref q_t_minutes) (C := RX4) (T := TX4) (N := 3) hx hb hts iX4 hown hK.1 hP 0 rfl rfl 1 (Nat.le_of_ble_eq_true rfl) k2 (fun _ h9 => h9) rfl dX4_add_23 ?_
    refine lv_aload_n hx hb dX4_add_26 rfl (lv_at hl 0 rfl) ?_
    refine va_get (ci := 4) (v := .int t_count) (C := RX4) (T := TX4) (N := 3) hx hb hts iX4 hown hK.1 hP 0 rfl rfl 2 (Nat.le_of_ble_eq_true rfl) k0 (fun _ h9 => h9) rfl dX4_add_27 ?_
    refine lv_iload_n hx hb dX4_add_30 rfl (lv_at hl 2 rfl) ?_
    obtain ⟨h3, hM⟩ := o_ck hM
    refine va_iast hx hb hK.1 hP hD hS 2 0 rfl rfl h3 dX4_add_31 (fun H locs hP hD hS => ?_)
    have hP : va_P D vwCl (w_Re_add cI cJ cS q_t q_t_persons q_t_minutes t_count (upd t_persons t_count.toNatClampNeg p_p) (upd t_minutes t_count.toNatClampNeg p_minute)) H := hP
    have hD : va_D A (w_Re_add cI cJ cS q_t q_t_persons q_t_minutes t_count (upd t_persons t_count.toNatClampNeg p_p) (upd t_minutes t_count.toNatClampNeg p_minute)) := hD
    refine lv_aload_n hx hb dX4_add_32 rfl (lv_at hl 0 rfl) ?_
    refine lv_dup hx hb dX4_add_33 rfl ?_
    refine va_get (ci := 4) (v := .int t_count) (C := RX4) (T := TX4) (N := 3) hx hb hts iX4 hown hK.1 hP 0 rfl rfl 2 (Nat.le_of_ble_eq_true rfl) k0 (fun _ h9 => h9) rfl dX4_add_34 ?_
    refine lv_iconst (v := 1) hx hb dX4_add_37 (by decide) ?_
    refine lv_iadd hx hb dX4_add_38 ?_
    refine lv_topi (fun y4 ey4 => ?_)
    have hM := o_lt hM y4 ey4
    refine va_put (ci := 4) (v := .int y4) (ty := .int) (C := RX4) (T := TX4) (N := 3) hx hb hts iX4 tyX4 tyX4_ok nmX4 hown hK.1 hP hD hS 0 rfl rfl 2 (Nat.le_of_ble_eq_true rfl) k0 (fun _ h9 => h9) rfl (tyX4_ok 2 (Nat.le_of_ble_eq_true rfl)) rfl rfl (Nat.le_of_ble_eq_true rfl) dX4_add_39 (fun H locs hP hD hS => ?_)
    have hP : va_P D vwCl (w_Re_add cI cJ cS q_t q_t_persons q_t_minutes y4 (upd t_persons t_count.toNatClampNeg p_p) (upd t_minutes t_count.toNatClampNeg p_minute)) H := hP
    have hD : va_D A (w_Re_add cI cJ cS q_t q_t_persons q_t_minutes y4 (upd t_persons t_count.toNatClampNeg p_p) (upd t_minutes t_count.toNatClampNeg p_minute)) := hD
    refine lv_aload_n hx hb dX4_add_42 rfl (lv_at hl 0 rfl) ?_
    refine va_get (ci := 4) (v := .int y4) (C := RX4) (T := TX4) (N := 3) hx hb hts iX4 hown hK.1 hP 0 rfl rfl 2 (Nat.le_of_ble_eq_true rfl) k0 (fun _ h9 => h9) rfl dX4_add_43 ?_
    refine lv_iconst (v := 1) hx hb dX4_add_46 (by decide) ?_
    refine lv_isub hx hb dX4_add_47 ?_
    have hM := (Option.some.inj hM)
    subst hM
    exact rt_i hx hb hr hlocks hP hD hS dX4_add_48
  · have hM := (o_if hM).2 c1
    refine lv_bipush (v := (-4)) hx hb dX4_add_9 (by decide) ?_
    have hM := (Option.some.inj hM)
    subst hM
    exact rt_i hx hb hr hlocks hP hD hS dX4_add_11
/-! ===== TurnQueue$Readings.whoAreRead ===== -/
abbrev w_Re_whoAreRead (cI cJ cS : ClassId) (q_t : Nat) (q_t_persons : Nat) (q_t_minutes : Nat) (t_count : Int32) (t_persons : Nat → Int32) : va_W := [(q_t, .inr (4, [.ref q_t_persons, .ref q_t_minutes, .int t_count])), (q_t_persons, ar cI 8 t_persons)]
abbrev rm_Re_whoAreRead : Room := { frames := 0, cells := 0, slots := 0, locals := 0 }
noncomputable def Re_whoAreRead_b4 (t_count : Int32) (t_persons : Nat → Int32) (x1 : Int32) (x2 : Int32) : Option ((Int32 × Int32) ⊕ (Int32)) :=
  if t_count ≤ x2 then
    some (.inr x1)
  else
    if ck x2 8 = true then
      lt (x1 ||| ((1 : Int32) <<< ((t_persons x2.toNatClampNeg) &&& 31))) fun y3 =>
      lt (x2 + 1) fun y4 =>
      some (.inl (y3, y4))
    else none
noncomputable def Re_whoAreRead_s4 (t_count : Int32) (t_persons : Nat → Int32) : (Int32 × Int32) → Option ((Int32 × Int32) ⊕ (Int32)) := fun x => Re_whoAreRead_b4 t_count t_persons x.1 x.2
noncomputable def Re_whoAreRead_l4 (t_count : Int32) (t_persons : Nat → Int32) (x1 : Int32) (x2 : Int32) : Option (Int32) := fin (Re_whoAreRead_s4 t_count t_persons) (x1, x2)
noncomputable def Re_whoAreRead (t_count : Int32) (t_persons : Nat → Int32) : Option (Int32) :=
  Re_whoAreRead_l4 t_count t_persons 0 0
theorem Re_whoAreRead_l4_eq (t_count : Int32) (t_persons : Nat → Int32) (x1 : Int32) (x2 : Int32) : Re_whoAreRead_l4 t_count t_persons x1 x2 = (Re_whoAreRead_b4 t_count t_persons x1 x2).bind (sg (fin (Re_whoAreRead_s4 t_count t_persons))) := by
  unfold Re_whoAreRead_l4
  exact fin_eq _ _
theorem Re_whoAreRead_l4_fd (t_count : Int32) (t_persons : Nat → Int32) (x1 : Int32) (x2 : Int32) : fin (Re_whoAreRead_s4 t_count t_persons) (x1, x2) = Re_whoAreRead_l4 t_count t_persons x1 x2 := rfl
set_option maxRecDepth 100000 in
set_option maxHeartbeats 4000000 in
theorem c_Re_whoAreRead (l : Launch) (D : va_G) (cI cJ cS : ClassId) (q_t q_t_persons q_t_minutes : Nat) (t_count : Int32) (t_persons : Nat → Int32) (o : Int32) (hM : Re_whoAreRead t_count t_persons = some o) : Ci l yX4_whoAreRead wsX4_whoAreRead rm_Re_whoAreRead D cI cJ cS [.ref q_t] (w_Re_whoAreRead cI cJ cS q_t q_t_persons q_t_minutes t_count t_persons) (w_Re_whoAreRead cI cJ cS q_t q_t_persons q_t_minutes t_count t_persons) o := by
  refine Ci.of (cc := cX4_whoAreRead) (maxL := 3) (ret := (some .int)) (by decide) rfl (Nat.le_of_ble_eq_true rfl) ?_
  intro p e s m args below meth c A ls hE
  obtain ⟨hx, hb, hr, hml, hown, hts, hlocks, hK, hA, hP, hD, hS, hl⟩ := hE
  have hown : s.vm.findClass RX4 = some m.cls := hown
  have hl : lv_has ls 3 [(0, .ref q_t)] := hl
  have iX4 : ∀ w ∈ u_ws RX4 TX4 3, w ∈ wsX4_whoAreRead := by decide +kernel
  have k0 := hts (.fieldLink RX4 18 "TurnQueue$Readings" "count" "I") (by decide +kernel)
  have k1 := hts (.fieldLink RX4 9 "TurnQueue$Readings" "persons" "[I") (by decide +kernel)
  have L4 : ∀ n : Nat, (∀ (x1 : Int32) (x2 : Int32), itr (Re_whoAreRead_s4 t_count t_persons) n (x1, x2) = some o → ∀ (H : Heap) (locs : List Loc), va_P D vwCl (w_Re_whoAreRead cI cJ cS q_t q_t_persons q_t_minutes t_count t_persons) H → va_D A (w_Re_whoAreRead cI cJ cS q_t q_t_persons q_t_minutes t_count t_persons) → va_S A s.heap H locs → ∀ ls : Array Slot, lv_has ls 3 [(0, .ref q_t), (1, .int x1), (2, .int x2)] → W p l e (headSpec wsX4_whoAreRead rm_Re_whoAreRead).room s m args below meth c H locs 0 0 (MQ below (CQi D (w_Re_whoAreRead cI cJ cS q_t q_t_persons q_t_minutes t_count t_persons) A o) args s 0 0 A) (F0 m 4 ls [])) := by
    intro n
    induction n with
    | zero => exact fun _ _ hM => (itr_0 hM).elim
    | succ n ih =>
      intro x1 x2 hM H locs hP hD hS ls hl
      have hM : (Re_whoAreRead_b4 t_count t_persons x1 x2).bind (sg (itr (Re_whoAreRead_s4 t_count t_persons) n)) = some o := hM
      unfold Re_whoAreRead_b4 at hM
      refine lv_iload_n hx hb dX4_whoAreRead_4 rfl (lv_at hl 2 rfl) ?_
      refine lv_aload_n hx hb dX4_whoAreRead_5 rfl (lv_at hl 0 rfl) ?_
      refine va_get (ci := 4) (v := .int t_count) (C := RX4) (T := TX4) (N := 3) hx hb hts iX4 hown hK.1 hP 0 rfl rfl 2 (Nat.le_of_ble_eq_true rfl) k0 (fun _ h9 => h9) rfl dX4_whoAreRead_6 ?_
      refine lv_icmp_ge (tgt := 29) hx hb dX4_whoAreRead_9 (by decide) (fun c1 => ?_) (fun c1 => ?_)
      · have hM := (s_if hM).1 c1
        refine lv_iload_n hx hb dX4_whoAreRead_29 rfl (lv_at hl 1 rfl) ?_
        have hM := (Option.some.inj (s_rt hM))
        subst hM
        exact rt_i hx hb hr hlocks hP hD hS dX4_whoAreRead_30
      · have hM := (s_if hM).2 c1
        refine lv_iload_n hx hb dX4_whoAreRead_12 rfl (lv_at hl 1 rfl) ?_
        refine lv_iconst (v := 1) hx hb dX4_whoAreRead_13 (by decide) ?_
        refine lv_aload_n hx hb dX4_whoAreRead_14 rfl (lv_at hl 0 rfl) ?_
        refine va_get (ci := 4) (v := .ref q_t_persons) (C := RX4) (T := TX4) (N := 3) hx hb hts iX4 hown hK.1 hP 0 rfl rfl 0 (Nat.le_of_ble_eq_true rfl) k1 (fun _ h9 => h9) rfl dX4_whoAreRead_15 ?_
        refine lv_iload_n hx hb dX4_whoAreRead_18 rfl (lv_at hl 2 rfl) ?_
        obtain ⟨h2, hM⟩ := s_ck hM
        refine va_iald hx hb hK.1 hP 1 0 rfl rfl h2 dX4_whoAreRead_19 ?_
        refine lv_ishl hx hb dX4_whoAreRead_20 ?_
        refine lv_ior hx hb dX4_whoAreRead_21 ?_
        refine lv_topi (fun y3 ey3 => ?_)
        have hM := s_lt hM y3 ey3
        refine lv_istore_n (lv' := [(1, .int y3), (0, .ref q_t), (2, .int x2)]) hx hb dX4_whoAreRead_22 rfl hl (Nat.le_of_ble_eq_true rfl) rfl (fun ls hl => ?_)
        obtain ⟨y4, ey4⟩ : ∃ y : Int32, y = x2 + 1 := ⟨_, rfl⟩
        have hM := s_lt hM y4 ey4
        refine lv_iinc (v := y4) (lv' := [(2, .int y4), (1, .int y3), (0, .ref q_t)]) hx hb dX4_whoAreRead_23 hl (k := 2) rfl (by rw [ey4]; rfl) (Nat.le_of_ble_eq_true rfl) rfl (fun ls hl => ?_)
        refine lv_goto (tgt := 4) hx hb dX4_whoAreRead_26 (by decide) ?_
        exact ih y3 y4 (s_jp hM) _ _ hP hD hS _ (lv_sub hl [2, 1, 0] rfl)
  have J4 : ∀ (x1 : Int32) (x2 : Int32), Re_whoAreRead_l4 t_count t_persons x1 x2 = some o → ∀ (H : Heap) (locs : List Loc), va_P D vwCl (w_Re_whoAreRead cI cJ cS q_t q_t_persons q_t_minutes t_count t_persons) H → va_D A (w_Re_whoAreRead cI cJ cS q_t q_t_persons q_t_minutes t_count t_persons) → va_S A s.heap H locs → ∀ ls : Array Slot, lv_has ls 3 [(0, .ref q_t), (1, .int x1), (2, .int x2)] → W p l e (headSpec wsX4_whoAreRead rm_Re_whoAreRead).room s m args below meth c H locs 0 0 (MQ below (CQi D (w_Re_whoAreRead cI cJ cS q_t q_t_persons q_t_minutes t_count t_persons) A o) args s 0 0 A) (F0 m 4 ls []) := by
    intro x1 x2 hM
    unfold Re_whoAreRead_l4 at hM
    obtain ⟨n0, hM⟩ := fin_some hM
    exact (L4 n0) x1 x2 hM
  unfold Re_whoAreRead at hM
  refine lv_iconst (v := 0) hx hb dX4_whoAreRead_0 (by decide) ?_
  refine lv_istore_n (lv' := [(1, .int 0), (0, .ref q_t)]) hx hb dX4_whoAreRead_1 rfl hl (Nat.le_of_ble_eq_true rfl) rfl (fun ls hl => ?_)
  refine lv_iconst (v := 0) hx hb dX4_whoAreRead_2 (by decide) ?_
  refine lv_istore_n (lv' := [(2, .int 0), (1, .int 0), (0, .ref q_t)]) hx hb dX4_whoAreRead_3 rfl hl (Nat.le_of_ble_eq_true rfl) rfl (fun ls hl => ?_)
  exact J4 0 0 hM _ _ hP hD hS _ (lv_sub hl [2, 1, 0] rfl)
/-! ===== TurnQueue$Readings.areSo ===== -/
abbrev w_Re_areSo (cI cJ cS : ClassId) (q_t : Nat) (q_servedAt : Nat) (q_t_persons : Nat) (q_t_minutes : Nat) (t_count : Int32) (t_persons : Nat → Int32) (t_minutes : Nat → Int32) (servedAt : Nat → Int32) : va_W := [(q_t, .inr (4, [.ref q_t_persons, .ref q_t_minutes, .int t_count])), (q_t_persons, ar cI 8 t_persons), (q_t_minutes, ar cI 8 t_minutes), (q_servedAt, ar cI 7 servedAt)]
abbrev rm_Re_areSo : Room := { frames := 0, cells := 0, slots := 0, locals := 0 }
noncomputable def Re_areSo_b2 (t_count : Int32) (t_persons : Nat → Int32) (t_minutes : Nat → Int32) (servedAt : Nat → Int32) (x2 : Int32) : Option ((Int32) ⊕ (Int32)) :=
  if t_count ≤ x2 then
    some (.inr 1)
  else
    if ck x2 8 = true then
      if ck (t_persons x2.toNatClampNeg) 7 = true then
        if ck x2 8 = true then
          if (servedAt (t_persons x2.toNatClampNeg).toNatClampNeg) = (t_minutes x2.toNatClampNeg) then
            lt (x2 + 1) fun y6 =>
            some (.inl (y6))
          else
            some (.inr 0)
        else none
      else none
    else none
noncomputable def Re_areSo_s2 (t_count : Int32) (t_persons : Nat → Int32) (t_minutes : Nat → Int32) (servedAt : Nat → Int32) : (Int32) → Option ((Int32) ⊕ (Int32)) := fun x => Re_areSo_b2 t_count t_persons t_minutes servedAt x
noncomputable def Re_areSo_l2 (t_count : Int32) (t_persons : Nat → Int32) (t_minutes : Nat → Int32) (servedAt : Nat → Int32) (x2 : Int32) : Option (Int32) := fin (Re_areSo_s2 t_count t_persons t_minutes servedAt) (x2)
noncomputable def Re_areSo (t_count : Int32) (t_persons : Nat → Int32) (t_minutes : Nat → Int32) (servedAt : Nat → Int32) : Option (Int32) :=
  Re_areSo_l2 t_count t_persons t_minutes servedAt 0
theorem Re_areSo_l2_eq (t_count : Int32) (t_persons : Nat → Int32) (t_minutes : Nat → Int32) (servedAt : Nat → Int32) (x2 : Int32) : Re_areSo_l2 t_count t_persons t_minutes servedAt x2 = (Re_areSo_b2 t_count t_persons t_minutes servedAt x2).bind (sg (fin (Re_areSo_s2 t_count t_persons t_minutes servedAt))) := by
  unfold Re_areSo_l2
  exact fin_eq _ _
theorem Re_areSo_l2_fd (t_count : Int32) (t_persons : Nat → Int32) (t_minutes : Nat → Int32) (servedAt : Nat → Int32) (x2 : Int32) : fin (Re_areSo_s2 t_count t_persons t_minutes servedAt) (x2) = Re_areSo_l2 t_count t_persons t_minutes servedAt x2 := rfl
set_option maxRecDepth 100000 in
set_option maxHeartbeats 4000000 in
theorem c_Re_areSo (l : Launch) (D : va_G) (cI cJ cS : ClassId) (q_t q_servedAt q_t_persons q_t_minutes : Nat) (t_count : Int32) (t_persons : Nat → Int32) (t_minutes : Nat → Int32) (servedAt : Nat → Int32) (o : Int32) (hM : Re_areSo t_count t_persons t_minutes servedAt = some o) : Ci l yX4_areSo wsX4_areSo rm_Re_areSo D cI cJ cS [.ref q_t, .ref q_servedAt] (w_Re_areSo cI cJ cS q_t q_servedAt q_t_persons q_t_minutes t_count t_persons t_minutes servedAt) (w_Re_areSo cI cJ cS q_t q_servedAt q_t_persons q_t_minutes t_count t_persons t_minutes servedAt) o := by
  refine Ci.of (cc := cX4_areSo) (maxL := 3) (ret := (some .boolean)) (by decide) rfl (Nat.le_of_ble_eq_true rfl) ?_
  intro p e s m args below meth c A ls hE
  obtain ⟨hx, hb, hr, hml, hown, hts, hlocks, hK, hA, hP, hD, hS, hl⟩ := hE
  have hown : s.vm.findClass RX4 = some m.cls := hown
  have hl : lv_has ls 3 [(0, .ref q_t), (1, .ref q_servedAt)] := hl
  have iX4 : ∀ w ∈ u_ws RX4 TX4 3, w ∈ wsX4_areSo := by decide +kernel
  have k0 := hts (.fieldLink RX4 18 "TurnQueue$Readings" "count" "I") (by decide +kernel)
  have k1 := hts (.fieldLink RX4 9 "TurnQueue$Readings" "persons" "[I") (by decide +kernel)
  have k2 := hts (.fieldLink RX4 15 "TurnQueue$Readings" "minutes" "[I") (by decide +kernel)
  have L2 : ∀ n : Nat, (∀ (x2 : Int32), itr (Re_areSo_s2 t_count t_persons t_minutes servedAt) n (x2) = some o → ∀ (H : Heap) (locs : List Loc), va_P D vwCl (w_Re_areSo cI cJ cS q_t q_servedAt q_t_persons q_t_minutes t_count t_persons t_minutes servedAt) H → va_D A (w_Re_areSo cI cJ cS q_t q_servedAt q_t_persons q_t_minutes t_count t_persons t_minutes servedAt) → va_S A s.heap H locs → ∀ ls : Array Slot, lv_has ls 3 [(0, .ref q_t), (1, .ref q_servedAt), (2, .int x2)] → W p l e (headSpec wsX4_areSo rm_Re_areSo).room s m args below meth c H locs 0 0 (MQ below (CQi D (w_Re_areSo cI cJ cS q_t q_servedAt q_t_persons q_t_minutes t_count t_persons t_minutes servedAt) A o) args s 0 0 A) (F0 m 2 ls [])) := by
    intro n
    induction n with
    | zero => exact fun _ hM => (itr_0 hM).elim
    | succ n ih =>
      intro x2 hM H locs hP hD hS ls hl
      have hM : (Re_areSo_b2 t_count t_persons t_minutes servedAt x2).bind (sg (itr (Re_areSo_s2 t_count t_persons t_minutes servedAt) n)) = some o := hM
      unfold Re_areSo_b2 at hM
      refine lv_iload_n hx hb dX4_areSo_2 rfl (lv_at hl 2 rfl) ?_
      refine lv_aload_n hx hb dX4_areSo_3 rfl (lv_at hl 0 rfl) ?_
      refine va_get (ci := 4) (v := .int t_count) (C := RX4) (T := TX4) (N := 3) hx hb hts iX4 hown hK.1 hP 0 rfl rfl 2 (Nat.le_of_ble_eq_true rfl) k0 (fun _ h9 => h9) rfl dX4_areSo_4 ?_
      refine lv_icmp_ge (tgt := 35) hx hb dX4_areSo_7 (by decide) (fun c1 => ?_) (fun c1 => ?_)
      · have hM := (s_if hM).1 c1
        refine lv_iconst (v := 1) hx hb dX4_areSo_35 (by decide) ?_
        have hM := (Option.some.inj (s_rt hM))
        subst hM
        exact rt_z hx hb hr hlocks hP hD hS (show narrow .boolean (.int 1) = .int 1 from rfl) dX4_areSo_36
      · have hM := (s_if hM).2 c1
        refine lv_aload_n hx hb dX4_areSo_10 rfl (lv_at hl 1 rfl) ?_
        refine lv_aload_n hx hb dX4_areSo_11 rfl (lv_at hl 0 rfl) ?_
        refine va_get (ci := 4) (v := .ref q_t_persons) (C := RX4) (T := TX4) (N := 3) hx hb hts iX4 hown hK.1 hP 0 rfl rfl 0 (Nat.le_of_ble_eq_true rfl) k1 (fun _ h9 => h9) rfl dX4_areSo_12 ?_
        refine lv_iload_n hx hb dX4_areSo_15 rfl (lv_at hl 2 rfl) ?_
        obtain ⟨h2, hM⟩ := s_ck hM
        refine va_iald hx hb hK.1 hP 1 0 rfl rfl h2 dX4_areSo_16 ?_
        obtain ⟨h3, hM⟩ := s_ck hM
        refine va_iald hx hb hK.1 hP 3 0 rfl rfl h3 dX4_areSo_17 ?_
        refine lv_aload_n hx hb dX4_areSo_18 rfl (lv_at hl 0 rfl) ?_
        refine va_get (ci := 4) (v := .ref q_t_minutes) (C := RX4) (T := TX4) (N := 3) hx hb hts iX4 hown hK.1 hP 0 rfl rfl 1 (Nat.le_of_ble_eq_true rfl) k2 (fun _ h9 => h9) rfl dX4_areSo_19 ?_
        refine lv_iload_n hx hb dX4_areSo_22 rfl (lv_at hl 2 rfl) ?_
        obtain ⟨h4, hM⟩ := s_ck hM
        refine va_iald hx hb hK.1 hP 2 0 rfl rfl h4 dX4_areSo_23 ?_
        refine lv_icmp_eq (tgt := 29) hx hb dX4_areSo_24 (by decide) (fun c5 => ?_) (fun c5 => ?_)
        · have hM := (s_if hM).1 c5
          obtain ⟨y6, ey6⟩ : ∃ y : Int32, y = x2 + 1 := ⟨_, rfl⟩
          have hM := s_lt hM y6 ey6
          refine lv_iinc (v := y6) (lv' := [(2, .int y6), (0, .ref q_t), (1, .ref q_servedAt)]) hx hb dX4_areSo_29 hl (k := 2) rfl (by rw [ey6]; rfl) (Nat.le_of_ble_eq_true rfl) rfl (fun ls hl => ?_)
          refine lv_goto (tgt := 2) hx hb dX4_areSo_32 (by decide) ?_
          exact ih y6 (s_jp hM) _ _ hP hD hS _ (lv_sub hl [1, 2, 0] rfl)
        · have hM := (s_if hM).2 c5
          refine lv_iconst (v := 0) hx hb dX4_areSo_27 (by decide) ?_
          have hM := (Option.some.inj (s_rt hM))
          subst hM
          exact rt_z hx hb hr hlocks hP hD hS (show narrow .boolean (.int 0) = .int 0 from rfl) dX4_areSo_28
  have J2 : ∀ (x2 : Int32), Re_areSo_l2 t_count t_persons t_minutes servedAt x2 = some o → ∀ (H : Heap) (locs : List Loc), va_P D vwCl (w_Re_areSo cI cJ cS q_t q_servedAt q_t_persons q_t_minutes t_count t_persons t_minutes servedAt) H → va_D A (w_Re_areSo cI cJ cS q_t q_servedAt q_t_persons q_t_minutes t_count t_persons t_minutes servedAt) → va_S A s.heap H locs → ∀ ls : Array Slot, lv_has ls 3 [(0, .ref q_t), (1, .ref q_servedAt), (2, .int x2)] → W p l e (headSpec wsX4_areSo rm_Re_areSo).room s m args below meth c H locs 0 0 (MQ below (CQi D (w_Re_areSo cI cJ cS q_t q_servedAt q_t_persons q_t_minutes t_count t_persons t_minutes servedAt) A o) args s 0 0 A) (F0 m 2 ls []) := by
    intro x2 hM
    unfold Re_areSo_l2 at hM
    obtain ⟨n0, hM⟩ := fin_some hM
    exact (L2 n0) x2 hM
  unfold Re_areSo at hM
  refine lv_iconst (v := 0) hx hb dX4_areSo_0 (by decide) ?_
  refine lv_istore_n (lv' := [(2, .int 0), (0, .ref q_t), (1, .ref q_servedAt)]) hx hb dX4_areSo_1 rfl hl (Nat.le_of_ble_eq_true rfl) rfl (fun ls hl => ?_)
  exact J2 0 hM _ _ hP hD hS _ (lv_sub hl [1, 2, 0] rfl)
/-! ===== java/lang/Integer.bitCount ===== -/
abbrev w_JI_bitCount (cI cJ cS : ClassId) : va_W := []
abbrev rm_JI_bitCount : Room := { frames := 0, cells := 0, slots := 0, locals := 0 }
noncomputable def JI_bitCount (p_a0 : Int32) : Option (Int32) :=
  lt (p_a0 - (((p_a0.toUInt32 >>> ((1 : Int32).toUInt32 &&& Int32.toUInt32 31)).toInt32) &&& 1431655765)) fun y1 =>
  lt ((y1 &&& 858993459) + (((y1.toUInt32 >>> ((2 : Int32).toUInt32 &&& Int32.toUInt32 31)).toInt32) &&& 858993459)) fun y2 =>
  lt ((y2 + ((y2.toUInt32 >>> ((4 : Int32).toUInt32 &&& Int32.toUInt32 31)).toInt32)) &&& 252645135) fun y3 =>
  lt (y3 + ((y3.toUInt32 >>> ((8 : Int32).toUInt32 &&& Int32.toUInt32 31)).toInt32)) fun y4 =>
  lt (y4 + ((y4.toUInt32 >>> ((16 : Int32).toUInt32 &&& Int32.toUInt32 31)).toInt32)) fun y5 =>
  some (y5 &&& 63)
set_option maxRecDepth 100000 in
set_option maxHeartbeats 4000000 in
theorem c_JI_bitCount (l : Launch) (D : va_G) (cI cJ cS : ClassId) (p_a0 : Int32) (o : Int32) (hM : JI_bitCount p_a0 = some o) : Ci l yJ6_bitCount_0f7a4 wsJ6_bitCount_0f7a4 rm_JI_bitCount D cI cJ cS [.int p_a0] (w_JI_bitCount cI cJ cS) (w_JI_bitCount cI cJ cS) o := by
  refine Ci.of (cc := cJ6_bitCount_0f7a4) (maxL := 1) (ret := (some .int)) (by decide) rfl (Nat.le_of_ble_eq_true rfl) ?_
  intro p e s m args below meth c A ls hE
  obtain ⟨hx, hb, hr, hml, hown, hts, hlocks, hK, hA, hP, hD, hS, hl⟩ := hE
  have hown : s.vm.findClass RJ6 = some m.cls := hown
  have hl : lv_has ls 1 [(0, .int p_a0)] := hl
  have k0 := hts (.constant RJ6 265 (1431655765)) (by decide +kernel)
  have k1 := hts (.constant RJ6 266 (858993459)) (by decide +kernel)
  have k2 := hts (.constant RJ6 267 (252645135)) (by decide +kernel)
  unfold JI_bitCount at hM
  refine lv_iload_n hx hb dJ6_bitCount_0f7a4_0 rfl (lv_at hl 0 rfl) ?_
  refine lv_iload_n hx hb dJ6_bitCount_0f7a4_1 rfl (lv_at hl 0 rfl) ?_
  refine lv_iconst (v := 1) hx hb dJ6_bitCount_0f7a4_2 (by decide) ?_
  refine lv_iushr (v := (p_a0.toUInt32 >>> ((1 : Int32).toUInt32 &&& Int32.toUInt32 31)).toInt32) hx hb dJ6_bitCount_0f7a4_3 rfl ?_
  refine lv_ldcw (v := 1431655765) hx hb hown k0 dJ6_bitCount_0f7a4_4 ?_
  refine lv_iand hx hb dJ6_bitCount_0f7a4_7 ?_
  refine lv_isub hx hb dJ6_bitCount_0f7a4_8 ?_
  refine lv_topi (fun y1 ey1 => ?_)
  have hM := o_lt hM y1 ey1
  refine lv_istore_n (lv' := [(0, .int y1)]) hx hb dJ6_bitCount_0f7a4_9 rfl hl (Nat.le_of_ble_eq_true rfl) rfl (fun ls hl => ?_)
  refine lv_iload_n hx hb dJ6_bitCount_0f7a4_10 rfl (lv_at hl 0 rfl) ?_
  refine lv_ldcw (v := 858993459) hx hb hown k1 dJ6_bitCount_0f7a4_11 ?_
  refine lv_iand hx hb dJ6_bitCount_0f7a4_14 ?_
  refine lv_iload_n hx hb dJ6_bitCount_0f7a4_15 rfl (lv_at hl 0 rfl) ?_
  refine lv_iconst (v := 2) hx hb dJ6_bitCount_0f7a4_16 (by decide) ?_
  refine lv_iushr (v := (y1.toUInt32 >>> ((2 : Int32).toUInt32 &&& Int32.toUInt32 31)).toInt32) hx hb dJ6_bitCount_0f7a4_17 rfl ?_
  refine lv_ldcw (v := 858993459) hx hb hown k1 dJ6_bitCount_0f7a4_18 ?_
  refine lv_iand hx hb dJ6_bitCount_0f7a4_21 ?_
  refine lv_iadd hx hb dJ6_bitCount_0f7a4_22 ?_
  refine lv_topi (fun y2 ey2 => ?_)
  have hM := o_lt hM y2 ey2
  refine lv_istore_n (lv' := [(0, .int y2)]) hx hb dJ6_bitCount_0f7a4_23 rfl hl (Nat.le_of_ble_eq_true rfl) rfl (fun ls hl => ?_)
  refine lv_iload_n hx hb dJ6_bitCount_0f7a4_24 rfl (lv_at hl 0 rfl) ?_
  refine lv_iload_n hx hb dJ6_bitCount_0f7a4_25 rfl (lv_at hl 0 rfl) ?_
  refine lv_iconst (v := 4) hx hb dJ6_bitCount_0f7a4_26 (by decide) ?_
  refine lv_iushr (v := (y2.toUInt32 >>> ((4 : Int32).toUInt32 &&& Int32.toUInt32 31)).toInt32) hx hb dJ6_bitCount_0f7a4_27 rfl ?_
  refine lv_iadd hx hb dJ6_bitCount_0f7a4_28 ?_
  refine lv_ldcw (v := 252645135) hx hb hown k2 dJ6_bitCount_0f7a4_29 ?_
  refine lv_iand hx hb dJ6_bitCount_0f7a4_32 ?_
  refine lv_topi (fun y3 ey3 => ?_)
  have hM := o_lt hM y3 ey3
  refine lv_istore_n (lv' := [(0, .int y3)]) hx hb dJ6_bitCount_0f7a4_33 rfl hl (Nat.le_of_ble_eq_true rfl) rfl (fun ls hl => ?_)
  refine lv_iload_n hx hb dJ6_bitCount_0f7a4_34 rfl (lv_at hl 0 rfl) ?_
  refine lv_iload_n hx hb dJ6_bitCount_0f7a4_35 rfl (lv_at hl 0 rfl) ?_
  refine lv_bipush (v := 8) hx hb dJ6_bitCount_0f7a4_36 (by decide) ?_
  refine lv_iushr (v := (y3.toUInt32 >>> ((8 : Int32).toUInt32 &&& Int32.toUInt32 31)).toInt32) hx hb dJ6_bitCount_0f7a4_38 rfl ?_
  refine lv_iadd hx hb dJ6_bitCount_0f7a4_39 ?_
  refine lv_topi (fun y4 ey4 => ?_)
  have hM := o_lt hM y4 ey4
  refine lv_istore_n (lv' := [(0, .int y4)]) hx hb dJ6_bitCount_0f7a4_40 rfl hl (Nat.le_of_ble_eq_true rfl) rfl (fun ls hl => ?_)
  refine lv_iload_n hx hb dJ6_bitCount_0f7a4_41 rfl (lv_at hl 0 rfl) ?_
  refine lv_iload_n hx hb dJ6_bitCount_0f7a4_42 rfl (lv_at hl 0 rfl) ?_
  refine lv_bipush (v := 16) hx hb dJ6_bitCount_0f7a4_43 (by decide) ?_
  refine lv_iushr (v := (y4.toUInt32 >>> ((16 : Int32).toUInt32 &&& Int32.toUInt32 31)).toInt32) hx hb dJ6_bitCount_0f7a4_45 rfl ?_
  refine lv_iadd hx hb dJ6_bitCount_0f7a4_46 ?_
  refine lv_topi (fun y5 ey5 => ?_)
  have hM := o_lt hM y5 ey5
  refine lv_istore_n (lv' := [(0, .int y5)]) hx hb dJ6_bitCount_0f7a4_47 rfl hl (Nat.le_of_ble_eq_true rfl) rfl (fun ls hl => ?_)
  refine lv_iload_n hx hb dJ6_bitCount_0f7a4_48 rfl (lv_at hl 0 rfl) ?_
  refine lv_bipush (v := 63) hx hb dJ6_bitCount_0f7a4_49 (by decide) ?_
  refine lv_iand hx hb dJ6_bitCount_0f7a4_51 ?_
  have hM := (Option.some.inj hM)
  subst hM
  exact rt_i hx hb hr hlocks hP hD hS dJ6_bitCount_0f7a4_52
/-! ===== TurnQueue.isSheet ===== -/
abbrev w_Tq_isSheet (cI cJ cS : ClassId) : va_W := []
abbrev rm_Tq_isSheet : Room := { frames := 0, cells := 0, slots := 0, locals := 0 }
noncomputable def Tq_isSheet (p_k : Int32) : Option (Int32) :=
  if p_k < 0 then
    some 0
  else
    if 4 ≤ p_k then
      some 0
    else
      some 1
set_option maxRecDepth 100000 in
set_option maxHeartbeats 4000000 in
theorem c_Tq_isSheet (l : Launch) (D : va_G) (cI cJ cS : ClassId) (p_k : Int32) (o : Int32) (hM : Tq_isSheet p_k = some o) : Ci l yX8_isSheet wsX8_isSheet rm_Tq_isSheet D cI cJ cS [.int p_k] (w_Tq_isSheet cI cJ cS) (w_Tq_isSheet cI cJ cS) o := by
  refine Ci.of (cc := cX8_isSheet) (maxL := 1) (ret := (some .boolean)) (by decide) rfl (Nat.le_of_ble_eq_true rfl) ?_
  intro p e s m args below meth c A ls hE
  obtain ⟨hx, hb, hr, hml, hown, hts, hlocks, hK, hA, hP, hD, hS, hl⟩ := hE
  have hown : s.vm.findClass RX8 = some m.cls := hown
  have hl : lv_has ls 1 [(0, .int p_k)] := hl
  unfold Tq_isSheet at hM
  refine lv_iload_n hx hb dX8_isSheet_0 rfl (lv_at hl 0 rfl) ?_
  refine lv_if_lt (tgt := 13) hx hb dX8_isSheet_1 (by decide) (fun c1 => ?_) (fun c1 => ?_)
  · have hM := (o_if hM).1 c1
    refine lv_iconst (v := 0) hx hb dX8_isSheet_13 (by decide) ?_
    have hM := (Option.some.inj hM)
    subst hM
    exact rt_z hx hb hr hlocks hP hD hS (show narrow .boolean (.int 0) = .int 0 from rfl) dX8_isSheet_14
  · have hM := (o_if hM).2 c1
    refine lv_iload_n hx hb dX8_isSheet_4 rfl (lv_at hl 0 rfl) ?_
    refine lv_iconst (v := 4) hx hb dX8_isSheet_5 (by decide) ?_
    refine lv_icmp_ge (tgt := 13) hx hb dX8_isSheet_6 (by decide) (fun c2 => ?_) (fun c2 => ?_)
    · have hM := (o_if hM).1 c2
      refine lv_iconst (v := 0) hx hb dX8_isSheet_13 (by decide) ?_
      have hM := (Option.some.inj hM)
      subst hM
      exact rt_z hx hb hr hlocks hP hD hS (show narrow .boolean (.int 0) = .int 0 from rfl) dX8_isSheet_14
    · have hM := (o_if hM).2 c2
      refine lv_iconst (v := 1) hx hb dX8_isSheet_9 (by decide) ?_
      refine lv_goto (tgt := 14) hx hb dX8_isSheet_10 (by decide) ?_
      have hM := (Option.some.inj hM)
      subst hM
      exact rt_z hx hb hr hlocks hP hD hS (show narrow .boolean (.int 1) = .int 1 from rfl) dX8_isSheet_14
/-! ===== TurnQueue.isLane ===== -/
abbrev w_Tq_isLane (cI cJ cS : ClassId) : va_W := []
abbrev rm_Tq_isLane : Room := { frames := 0, cells := 0, slots := 0, locals := 0 }
noncomputable def Tq_isLane (p_lane : Int32) : Option (Int32) :=
  if p_lane < 0 then
    some 0
  else
    if 2 < p_lane then
      some 0
    else
      some 1
set_option maxRecDepth 100000 in
set_option maxHeartbeats 4000000 in
theorem c_Tq_isLane (l : Launch) (D : va_G) (cI cJ cS : ClassId) (p_lane : Int32) (o : Int32) (hM : Tq_isLane p_lane = some o) : Ci l yX8_isLane wsX8_isLane rm_Tq_isLane D cI cJ cS [.int p_lane] (w_Tq_isLane cI cJ cS) (w_Tq_isLane cI cJ cS) o := by
  refine Ci.of (cc := cX8_isLane) (maxL := 1) (ret := (some .boolean)) (by decide) rfl (Nat.le_of_ble_eq_true rfl) ?_
  intro p e s m args below meth c A ls hE
  obtain ⟨hx, hb, hr, hml, hown, hts, hlocks, hK, hA, hP, hD, hS, hl⟩ := hE
  have hown : s.vm.findClass RX8 = some m.cls := hown
  have hl : lv_has ls 1 [(0, .int p_lane)] := hl
  unfold Tq_isLane at hM
  refine lv_iload_n hx hb dX8_isLane_0 rfl (lv_at hl 0 rfl) ?_
  refine lv_if_lt (tgt := 13) hx hb dX8_isLane_1 (by decide) (fun c1 => ?_) (fun c1 => ?_)
  · have hM := (o_if hM).1 c1
    refine lv_iconst (v := 0) hx hb dX8_isLane_13 (by decide) ?_
    have hM := (Option.some.inj hM)
    subst hM
    exact rt_z hx hb hr hlocks hP hD hS (show narrow .boolean (.int 0) = .int 0 from rfl) dX8_isLane_14
  · have hM := (o_if hM).2 c1
    refine lv_iload_n hx hb dX8_isLane_4 rfl (lv_at hl 0 rfl) ?_
    refine lv_iconst (v := 2) hx hb dX8_isLane_5 (by decide) ?_
    refine lv_icmp_gt (tgt := 13) hx hb dX8_isLane_6 (by decide) (fun c2 => ?_) (fun c2 => ?_)
    · have hM := (o_if hM).1 c2
      refine lv_iconst (v := 0) hx hb dX8_isLane_13 (by decide) ?_
      have hM := (Option.some.inj hM)
      subst hM
      exact rt_z hx hb hr hlocks hP hD hS (show narrow .boolean (.int 0) = .int 0 from rfl) dX8_isLane_14
    · have hM := (o_if hM).2 c2
      refine lv_iconst (v := 1) hx hb dX8_isLane_9 (by decide) ?_
      refine lv_goto (tgt := 14) hx hb dX8_isLane_10 (by decide) ?_
      have hM := (Option.some.inj hM)
      subst hM
      exact rt_z hx hb hr hlocks hP hD hS (show narrow .boolean (.int 1) = .int 1 from rfl) dX8_isLane_14
/-! ===== TurnQueue.commonDivisor ===== -/
abbrev w_Tq_commonDivisor (cI cJ cS : ClassId) : va_W := []
abbrev rm_Tq_commonDivisor : Room := { frames := 0, cells := 0, slots := 0, locals := 0 }
noncomputable def Tq_commonDivisor_b2 (p_upper : Int32) (p_count : Int32) (x2 : Int32) : Option ((Int32) ⊕ (Int32)) :=
  if x2 ≤ 1 then
    some (.inr 1)
  else
    if ¬ x2 = 0 then
      if (p_upper - p_upper / x2 * x2) = 0 then
        if ¬ x2 = 0 then
          if (p_count - p_count / x2 * x2) = 0 then
            some (.inr x2)
          else
            lt (x2 + (-1)) fun y7 =>
            some (.inl (y7))
        else none
      else
        lt (x2 + (-1)) fun y4 =>
        some (.inl (y4))
    else none
noncomputable def Tq_commonDivisor_s2 (p_upper : Int32) (p_count : Int32) : (Int32) → Option ((Int32) ⊕ (Int32)) := fun x => Tq_commonDivisor_b2 p_upper p_count x
noncomputable def Tq_commonDivisor_l2 (p_upper : Int32) (p_count : Int32) (x2 : Int32) : Option (Int32) := fin (Tq_commonDivisor_s2 p_upper p_count) (x2)
noncomputable def Tq_commonDivisor (p_upper : Int32) (p_count : Int32) : Option (Int32) :=
  Tq_commonDivisor_l2 p_upper p_count p_count
theorem Tq_commonDivisor_l2_eq (p_upper : Int32) (p_count : Int32) (x2 : Int32) : Tq_commonDivisor_l2 p_upper p_count x2 = (Tq_commonDivisor_b2 p_upper p_count x2).bind (sg (fin (Tq_commonDivisor_s2 p_upper p_count))) := by
  unfold Tq_commonDivisor_l2
  exact fin_eq _ _
theorem Tq_commonDivisor_l2_fd (p_upper : Int32) (p_count : Int32) (x2 : Int32) : fin (Tq_commonDivisor_s2 p_upper p_count) (x2) = Tq_commonDivisor_l2 p_upper p_count x2 := rfl
set_option maxRecDepth 100000 in
set_option maxHeartbeats 4000000 in
theorem c_Tq_commonDivisor (l : Launch) (D : va_G) (cI cJ cS : ClassId) (p_upper : Int32) (p_count : Int32) (o : Int32) (hM : Tq_commonDivisor p_upper p_count = some o) : Ci l yX8_commonDivisor wsX8_commonDivisor rm_Tq_commonDivisor D cI cJ cS [.int p_upper, .int p_count] (w_Tq_commonDivisor cI cJ cS) (w_Tq_commonDivisor cI cJ cS) o := by
  refine Ci.of (cc := cX8_commonDivisor) (maxL := 3) (ret := (some .int)) (by decide) rfl (Nat.le_of_ble_eq_true rfl) ?_
  intro p e s m args below meth c A ls hE
  obtain ⟨hx, hb, hr, hml, hown, hts, hlocks, hK, hA, hP, hD, hS, hl⟩ := hE
  have hown : s.vm.findClass RX8 = some m.cls := hown
  have hl : lv_has ls 3 [(0, .int p_upper), (1, .int p_count)] := hl
  have L2 : ∀ n : Nat, (∀ (x2 : Int32), itr (Tq_commonDivisor_s2 p_upper p_count) n (x2) = some o → ∀ (H : Heap) (locs : List Loc), va_P D vwCl (w_Tq_commonDivisor cI cJ cS) H → va_D A (w_Tq_commonDivisor cI cJ cS) → va_S A s.heap H locs → ∀ ls : Array Slot, lv_has ls 3 [(0, .int p_upper), (1, .int p_count), (2, .int x2)] → W p l e (headSpec wsX8_commonDivisor rm_Tq_commonDivisor).room s m args below meth c H locs 0 0 (MQ below (CQi D (w_Tq_commonDivisor cI cJ cS) A o) args s 0 0 A) (F0 m 2 ls [])) := by
    intro n
    induction n with
    | zero => exact fun _ hM => (itr_0 hM).elim
    | succ n ih =>
      intro x2 hM H locs hP hD hS ls hl
      have hM : (Tq_commonDivisor_b2 p_upper p_count x2).bind (sg (itr (Tq_commonDivisor_s2 p_upper p_count) n)) = some o := hM
      unfold Tq_commonDivisor_b2 at hM
      refine lv_iload_n hx hb dX8_commonDivisor_2 rfl (lv_at hl 2 rfl) ?_
      refine lv_iconst (v := 1) hx hb dX8_commonDivisor_3 (by decide) ?_
      refine lv_icmp_le (tgt := 27) hx hb dX8_commonDivisor_4 (by decide) (fun c1 => ?_) (fun c1 => ?_)
      · have hM := (s_if hM).1 c1
        refine lv_iconst (v := 1) hx hb dX8_commonDivisor_27 (by decide) ?_
        have hM := (Option.some.inj (s_rt hM))
        subst hM
        exact rt_i hx hb hr hlocks hP hD hS dX8_commonDivisor_28
      · have hM := (s_if hM).2 c1
        refine lv_iload_n hx hb dX8_commonDivisor_7 rfl (lv_at hl 0 rfl) ?_
        refine lv_iload_n hx hb dX8_commonDivisor_8 rfl (lv_at hl 2 rfl) ?_
        obtain ⟨h2, hM⟩ := s_gd hM
        refine lv_irem hx hb dX8_commonDivisor_9 h2 ?_
        refine lv_if_ne (tgt := 21) hx hb dX8_commonDivisor_10 (by decide) (fun c3 => ?_) (fun c3 => ?_)
        · have hM := (s_if hM).2 c3
          obtain ⟨y4, ey4⟩ : ∃ y : Int32, y = x2 + (-1) := ⟨_, rfl⟩
          have hM := s_lt hM y4 ey4
          refine lv_iinc (v := y4) (lv' := [(2, .int y4), (0, .int p_upper), (1, .int p_count)]) hx hb dX8_commonDivisor_21 hl (k := 2) rfl (by rw [ey4]; rfl) (Nat.le_of_ble_eq_true rfl) rfl (fun ls hl => ?_)
          refine lv_goto (tgt := 2) hx hb dX8_commonDivisor_24 (by decide) ?_
          exact ih y4 (s_jp hM) _ _ hP hD hS _ (lv_sub hl [1, 2, 0] rfl)
        · have hM := (s_if hM).1 c3
          refine lv_iload_n hx hb dX8_commonDivisor_13 rfl (lv_at hl 1 rfl) ?_
          refine lv_iload_n hx hb dX8_commonDivisor_14 rfl (lv_at hl 2 rfl) ?_
          obtain ⟨h5, hM⟩ := s_gd hM
          refine lv_irem hx hb dX8_commonDivisor_15 h5 ?_
          refine lv_if_ne (tgt := 21) hx hb dX8_commonDivisor_16 (by decide) (fun c6 => ?_) (fun c6 => ?_)
          · have hM := (s_if hM).2 c6
            obtain ⟨y7, ey7⟩ : ∃ y : Int32, y = x2 + (-1) := ⟨_, rfl⟩
            have hM := s_lt hM y7 ey7
            refine lv_iinc (v := y7) (lv' := [(2, .int y7), (0, .int p_upper), (1, .int p_count)]) hx hb dX8_commonDivisor_21 hl (k := 2) rfl (by rw [ey7]; rfl) (Nat.le_of_ble_eq_true rfl) rfl (fun ls hl => ?_)
            refine lv_goto (tgt := 2) hx hb dX8_commonDivisor_24 (by decide) ?_
            exact ih y7 (s_jp hM) _ _ hP hD hS _ (lv_sub hl [1, 2, 0] rfl)
          · have hM := (s_if hM).1 c6
            refine lv_iload_n hx hb dX8_commonDivisor_19 rfl (lv_at hl 2 rfl) ?_
            have hM := (Option.some.inj (s_rt hM))
            subst hM
            exact rt_i hx hb hr hlocks hP hD hS dX8_commonDivisor_20
  have J2 : ∀ (x2 : Int32), Tq_commonDivisor_l2 p_upper p_count x2 = some o → ∀ (H : Heap) (locs : List Loc), va_P D vwCl (w_Tq_commonDivisor cI cJ cS) H → va_D A (w_Tq_commonDivisor cI cJ cS) → va_S A s.heap H locs → ∀ ls : Array Slot, lv_has ls 3 [(0, .int p_upper), (1, .int p_count), (2, .int x2)] → W p l e (headSpec wsX8_commonDivisor rm_Tq_commonDivisor).room s m args below meth c H locs 0 0 (MQ below (CQi D (w_Tq_commonDivisor cI cJ cS) A o) args s 0 0 A) (F0 m 2 ls []) := by
    intro x2 hM
    unfold Tq_commonDivisor_l2 at hM
    obtain ⟨n0, hM⟩ := fin_some hM
    exact (L2 n0) x2 hM
  unfold Tq_commonDivisor at hM
  refine lv_iload_n hx hb dX8_commonDivisor_0 rfl (lv_at hl 1 rfl) ?_
  refine lv_istore_n (lv' := [(2, .int p_count), (0, .int p_upper), (1, .int p_count)]) hx hb dX8_commonDivisor_1 rfl hl (Nat.le_of_ble_eq_true rfl) rfl (fun ls hl => ?_)
  exact J2 p_count hM _ _ hP hD hS _ (lv_sub hl [1, 2, 0] rfl)
/-! ===== java/lang/Long.bitCount ===== -/
abbrev w_JL_bitCount (cI cJ cS : ClassId) : va_W := []
abbrev rm_JL_bitCount : Room := { frames := 0, cells := 0, slots := 0, locals := 0 }
noncomputable def JL_bitCount (p_a0 : Int64) : Option (Int32) :=
  lt (p_a0 - (((p_a0.toUInt64 >>> ((1 : Int32).toInt64.toUInt64 &&& Int64.toUInt64 63)).toInt64) &&& 6148914691236517205)) fun y1 =>
  lt ((y1 &&& 3689348814741910323) + (((y1.toUInt64 >>> ((2 : Int32).toInt64.toUInt64 &&& Int64.toUInt64 63)).toInt64) &&& 3689348814741910323)) fun y2 =>
  lt ((y2 + ((y2.toUInt64 >>> ((4 : Int32).toInt64.toUInt64 &&& Int64.toUInt64 63)).toInt64)) &&& 1085102592571150095) fun y3 =>
  lt (y3 + ((y3.toUInt64 >>> ((8 : Int32).toInt64.toUInt64 &&& Int64.toUInt64 63)).toInt64)) fun y4 =>
  lt (y4 + ((y4.toUInt64 >>> ((16 : Int32).toInt64.toUInt64 &&& Int64.toUInt64 63)).toInt64)) fun y5 =>
  lt (y5 + ((y5.toUInt64 >>> ((32 : Int32).toInt64.toUInt64 &&& Int64.toUInt64 63)).toInt64)) fun y6 =>
  some (y6.toInt32 &&& 127)
set_option maxRecDepth 100000 in
set_option maxHeartbeats 4000000 in
theorem c_JL_bitCount (l : Launch) (D : va_G) (cI cJ cS : ClassId) (p_a0 : Int64) (o : Int32) (hM : JL_bitCount p_a0 = some o) : Ci l yJ13_bitCount_95d88 wsJ13_bitCount_95d88 rm_JL_bitCount D cI cJ cS [.long p_a0] (w_JL_bitCount cI cJ cS) (w_JL_bitCount cI cJ cS) o := by
  refine Ci.of (cc := cJ13_bitCount_95d88) (maxL := 2) (ret := (some .int)) (by decide) rfl (Nat.le_of_ble_eq_true rfl) ?_
  intro p e s m args below meth c A ls hE
  obtain ⟨hx, hb, hr, hml, hown, hts, hlocks, hK, hA, hP, hD, hS, hl⟩ := hE
  have hown : s.vm.findClass RJ13 = some m.cls := hown
  have hl : lv_has ls 2 [(0, .long p_a0)] := hl
  have k0 := hts (.constantLong RJ13 314 (6148914691236517205)) (by decide +kernel)
  have k1 := hts (.constantLong RJ13 316 (3689348814741910323)) (by decide +kernel)
  have k2 := hts (.constantLong RJ13 318 (1085102592571150095)) (by decide +kernel)
  unfold JL_bitCount at hM
  refine lv_lload_n hx hb dJ13_bitCount_95d88_0 rfl (lv_at hl 0 rfl) ?_
  refine lv_lload_n hx hb dJ13_bitCount_95d88_1 rfl (lv_at hl 0 rfl) ?_
  refine lv_iconst (v := 1) hx hb dJ13_bitCount_95d88_2 (by decide) ?_
  refine lv_lushr (v := (p_a0.toUInt64 >>> ((1 : Int32).toInt64.toUInt64 &&& Int64.toUInt64 63)).toInt64) hx hb dJ13_bitCount_95d88_3 rfl ?_
  refine lv_ldc2 (v := 6148914691236517205) hx hb hown k0 dJ13_bitCount_95d88_4 ?_
  refine lv_land hx hb dJ13_bitCount_95d88_7 ?_
  refine lv_lsub hx hb dJ13_bitCount_95d88_8 ?_
  refine lv_topl (fun y1 ey1 => ?_)
  have hM := o_lt hM y1 ey1
  refine lv_lstore_n (lv' := [(0, .long y1)]) hx hb dJ13_bitCount_95d88_9 rfl hl (Nat.le_of_ble_eq_true rfl) rfl (fun ls hl => ?_)
  refine lv_lload_n hx hb dJ13_bitCount_95d88_10 rfl (lv_at hl 0 rfl) ?_
  refine lv_ldc2 (v := 3689348814741910323) hx hb hown k1 dJ13_bitCount_95d88_11 ?_
  refine lv_land hx hb dJ13_bitCount_95d88_14 ?_
  refine lv_lload_n hx hb dJ13_bitCount_95d88_15 rfl (lv_at hl 0 rfl) ?_
  refine lv_iconst (v := 2) hx hb dJ13_bitCount_95d88_16 (by decide) ?_
  refine lv_lushr (v := (y1.toUInt64 >>> ((2 : Int32).toInt64.toUInt64 &&& Int64.toUInt64 63)).toInt64) hx hb dJ13_bitCount_95d88_17 rfl ?_
  refine lv_ldc2 (v := 3689348814741910323) hx hb hown k1 dJ13_bitCount_95d88_18 ?_
  refine lv_land hx hb dJ13_bitCount_95d88_21 ?_
  refine lv_ladd hx hb dJ13_bitCount_95d88_22 ?_
  refine lv_topl (fun y2 ey2 => ?_)
  have hM := o_lt hM y2 ey2
  refine lv_lstore_n (lv' := [(0, .long y2)]) hx hb dJ13_bitCount_95d88_23 rfl hl (Nat.le_of_ble_eq_true rfl) rfl (fun ls hl => ?_)
  refine lv_lload_n hx hb dJ13_bitCount_95d88_24 rfl (lv_at hl 0 rfl) ?_
  refine lv_lload_n hx hb dJ13_bitCount_95d88_25 rfl (lv_at hl 0 rfl) ?_
  refine lv_iconst (v := 4) hx hb dJ13_bitCount_95d88_26 (by decide) ?_
  refine lv_lushr (v := (y2.toUInt64 >>> ((4 : Int32).toInt64.toUInt64 &&& Int64.toUInt64 63)).toInt64) hx hb dJ13_bitCount_95d88_27 rfl ?_
  refine lv_ladd hx hb dJ13_bitCount_95d88_28 ?_
  refine lv_ldc2 (v := 1085102592571150095) hx hb hown k2 dJ13_bitCount_95d88_29 ?_
  refine lv_land hx hb dJ13_bitCount_95d88_32 ?_
  refine lv_topl (fun y3 ey3 => ?_)
  have hM := o_lt hM y3 ey3
  refine lv_lstore_n (lv' := [(0, .long y3)]) hx hb dJ13_bitCount_95d88_33 rfl hl (Nat.le_of_ble_eq_true rfl) rfl (fun ls hl => ?_)
  refine lv_lload_n hx hb dJ13_bitCount_95d88_34 rfl (lv_at hl 0 rfl) ?_
  refine lv_lload_n hx hb dJ13_bitCount_95d88_35 rfl (lv_at hl 0 rfl) ?_
  refine lv_bipush (v := 8) hx hb dJ13_bitCount_95d88_36 (by decide) ?_
  refine lv_lushr (v := (y3.toUInt64 >>> ((8 : Int32).toInt64.toUInt64 &&& Int64.toUInt64 63)).toInt64) hx hb dJ13_bitCount_95d88_38 rfl ?_
  refine lv_ladd hx hb dJ13_bitCount_95d88_39 ?_
  refine lv_topl (fun y4 ey4 => ?_)
  have hM := o_lt hM y4 ey4
  refine lv_lstore_n (lv' := [(0, .long y4)]) hx hb dJ13_bitCount_95d88_40 rfl hl (Nat.le_of_ble_eq_true rfl) rfl (fun ls hl => ?_)
  refine lv_lload_n hx hb dJ13_bitCount_95d88_41 rfl (lv_at hl 0 rfl) ?_
  refine lv_lload_n hx hb dJ13_bitCount_95d88_42 rfl (lv_at hl 0 rfl) ?_
  refine lv_bipush (v := 16) hx hb dJ13_bitCount_95d88_43 (by decide) ?_
  refine lv_lushr (v := (y4.toUInt64 >>> ((16 : Int32).toInt64.toUInt64 &&& Int64.toUInt64 63)).toInt64) hx hb dJ13_bitCount_95d88_45 rfl ?_
  refine lv_ladd hx hb dJ13_bitCount_95d88_46 ?_
  refine lv_topl (fun y5 ey5 => ?_)
  have hM := o_lt hM y5 ey5
  refine lv_lstore_n (lv' := [(0, .long y5)]) hx hb dJ13_bitCount_95d88_47 rfl hl (Nat.le_of_ble_eq_true rfl) rfl (fun ls hl => ?_)
  refine lv_lload_n hx hb dJ13_bitCount_95d88_48 rfl (lv_at hl 0 rfl) ?_
  refine lv_lload_n hx hb dJ13_bitCount_95d88_49 rfl (lv_at hl 0 rfl) ?_
  refine lv_bipush (v := 32) hx hb dJ13_bitCount_95d88_50 (by decide) ?_
  refine lv_lushr (v := (y5.toUInt64 >>> ((32 : Int32).toInt64.toUInt64 &&& Int64.toUInt64 63)).toInt64) hx hb dJ13_bitCount_95d88_52 rfl ?_
  refine lv_ladd hx hb dJ13_bitCount_95d88_53 ?_
  refine lv_topl (fun y6 ey6 => ?_)
  have hM := o_lt hM y6 ey6
  refine lv_lstore_n (lv' := [(0, .long y6)]) hx hb dJ13_bitCount_95d88_54 rfl hl (Nat.le_of_ble_eq_true rfl) rfl (fun ls hl => ?_)
  refine lv_lload_n hx hb dJ13_bitCount_95d88_55 rfl (lv_at hl 0 rfl) ?_
  refine lv_l2i (v := y6.toInt32) hx hb dJ13_bitCount_95d88_56 rfl ?_
  refine lv_bipush (v := 127) hx hb dJ13_bitCount_95d88_57 (by decide) ?_
  refine lv_iand hx hb dJ13_bitCount_95d88_59 ?_
  have hM := (Option.some.inj hM)
  subst hM
  exact rt_i hx hb hr hlocks hP hD hS dJ13_bitCount_95d88_60

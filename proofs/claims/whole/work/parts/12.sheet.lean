/-! ===== TurnQueue$Sheet.hasNothing ===== -/
abbrev w_Sh_hasNothing (cI cJ cS : ClassId) (q_t : Nat) (q_t_cells : Nat) (t_lane : Int32) (t_size : Int32) : va_W := [(q_t, .inr (6, [.ref q_t_cells, .int t_lane, .int t_size]))]
abbrev rm_Sh_hasNothing : Room := { frames := 0, cells := 0, slots := 0, locals := 0 }
noncomputable def Sh_hasNothing (t_lane : Int32) : Option (Int32) :=
  if t_lane = (-1) then
    some 1
  else
    some 0
set_option maxRecDepth 100000 in
set_option maxHeartbeats 4000000 in
theorem c_Sh_hasNothing (l : Launch) (D : va_G) (cI cJ cS : ClassId) (q_t q_t_cells : Nat) (t_lane : Int32) (t_size : Int32) (o : Int32) (hM : Sh_hasNothing t_lane = some o) : Ci l yX6_hasNothing wsX6_hasNothing rm_Sh_hasNothing D cI cJ cS [.ref q_t] (w_Sh_hasNothing cI cJ cS q_t q_t_cells t_lane t_size) (w_Sh_hasNothing cI cJ cS q_t q_t_cells t_lane t_size) o := by
  refine Ci.of (cc := cX6_hasNothing) (maxL := 1) (ret := (some .boolean)) (by decide) rfl (Nat.le_of_ble_eq_true rfl) ?_
  intro p e s m args below meth c A ls hE
  obtain ⟨hx, hb, hr, hml, hown, hts, hlocks, hK, hA, hP, hD, hS, hl⟩ := hE
  have hown : s.vm.findClass RX6 = some m.cls := hown
  have hl : lv_has ls 1 [(0, .ref q_t)] := hl
  have iX6 : ∀ w ∈ u_ws RX6 TX6 3, w ∈ wsX6_hasNothing := by decide +kernel
  have k0 := hts (.fieldLink RX6 15 "TurnQueue$Sheet" "lane" "I") (by decide +kernel)
  unfold Sh_hasNothing at hM
  refine lv_aload_n hx hb dX6_hasNothing_0 rfl (lv_at hl 0 rfl) ?_
  refine va_get (ci := 6) (v := .int t_lane) (C := RX6) (T := TX6) (N := 3) hx hb hts iX6 hown hK.1 hP 0 rfl rfl 1 (Nat.le_of_ble_eq_true rfl) k0 (fun _ h9 => h9) rfl dX6_hasNothing_1 ?_
  refine lv_iconst (v := (-1)) hx hb dX6_hasNothing_4 (by decide) ?_
  refine lv_icmp_ne (tgt := 12) hx hb dX6_hasNothing_5 (by decide) (fun c1 => ?_) (fun c1 => ?_)
  · have hM := (o_if hM).2 c1
    refine lv_iconst (v := 0) hx hb dX6_hasNothing_12 (by decide) ?_
    have hM := (Option.some.inj hM)
    subst hM
    exact rt_z hx hb hr hlocks hP hD hS (show narrow .boolean (.int 0) = .int 0 from rfl) dX6_hasNothing_13
  · have hM := (o_if hM).1 c1
    refine lv_iconst (v := 1) hx hb dX6_hasNothing_8 (by decide) ?_
    refine lv_goto (tgt := 13) hx hb dX6_hasNothing_9 (by decide) ?_
    have hM := (Option.some.inj hM)
    subst hM
    exact rt_z hx hb hr hlocks hP hD hS (show narrow .boolean (.int 1) = .int 1 from rfl) dX6_hasNothing_13
/-! ===== TurnQueue$Sheet.isOfAnother ===== -/
abbrev w_Sh_isOfAnother (cI cJ cS : ClassId) (q_t : Nat) (q_t_cells : Nat) (t_lane : Int32) (t_size : Int32) : va_W := [(q_t, .inr (6, [.ref q_t_cells, .int t_lane, .int t_size]))]
abbrev rm_Sh_isOfAnother : Room := { frames := 0, cells := 0, slots := 0, locals := 0 }
noncomputable def Sh_isOfAnother (p_otherLane : Int32) (t_lane : Int32) : Option (Int32) :=
  if t_lane = (-1) then
    some 0
  else
    if t_lane = p_otherLane then
      some 0
    else
      some 1
set_option maxRecDepth 100000 in
set_option maxHeartbeats 4000000 in
theorem c_Sh_isOfAnother (l : Launch) (D : va_G) (cI cJ cS : ClassId) (q_t q_t_cells : Nat) (t_lane : Int32) (t_size : Int32) (p_otherLane : Int32) (o : Int32) (hM : Sh_isOfAnother p_otherLane t_lane = some o) : Ci l yX6_isOfAnother wsX6_isOfAnother rm_Sh_isOfAnother D cI cJ cS [.ref q_t, .int p_otherLane] (w_Sh_isOfAnother cI cJ cS q_t q_t_cells t_lane t_size) (w_Sh_isOfAnother cI cJ cS q_t q_t_cells t_lane t_size) o := by
  refine Ci.of (cc := cX6_isOfAnother) (maxL := 2) (ret := (some .boolean)) (by decide) rfl (Nat.le_of_ble_eq_true rfl) ?_
  intro p e s m args below meth c A ls hE
  obtain ⟨hx, hb, hr, hml, hown, hts, hlocks, hK, hA, hP, hD, hS, hl⟩ := hE
  have hown : s.vm.findClass RX6 = some m.cls := hown
  have hl : lv_has ls 2 [(0, .ref q_t), (1, .int p_otherLane)] := hl
  have iX6 : ∀ w ∈ u_ws RX6 TX6 3, w ∈ wsX6_isOfAnother := by decide +kernel
  have k0 := hts (.fieldLink RX6 15 "TurnQueue$Sheet" "lane" "I") (by decide +kernel)
  unfold Sh_isOfAnother at hM
  refine lv_aload_n hx hb dX6_isOfAnother_0 rfl (lv_at hl 0 rfl) ?_
  refine va_get (ci := 6) (v := .int t_lane) (C := RX6) (T := TX6) (N := 3) hx hb hts iX6 hown hK.1 hP 0 rfl rfl 1 (Nat.le_of_ble_eq_true rfl) k0 (fun _ h9 => h9) rfl dX6_isOfAnother_1 ?_
  refine lv_iconst (v := (-1)) hx hb dX6_isOfAnother_4 (by decide) ?_
  refine lv_icmp_eq (tgt := 20) hx hb dX6_isOfAnother_5 (by decide) (fun c1 => ?_) (fun c1 => ?_)
  · have hM := (o_if hM).1 c1
    refine lv_iconst (v := 0) hx hb dX6_isOfAnother_20 (by decide) ?_
    have hM := (Option.some.inj hM)
    subst hM
    exact rt_z hx hb hr hlocks hP hD hS (show narrow .boolean (.int 0) = .int 0 from rfl) dX6_isOfAnother_21
  · have hM := (o_if hM).2 c1
    refine lv_aload_n hx hb dX6_isOfAnother_8 rfl (lv_at hl 0 rfl) ?_
    refine va_get (ci := 6) (v := .int t_lane) (C := RX6) (T := TX6) (N := 3) hx hb hts iX6 hown hK.1 hP 0 rfl rfl 1 (Nat.le_of_ble_eq_true rfl) k0 (fun _ h9 => h9) rfl dX6_isOfAnother_9 ?_
    refine lv_iload_n hx hb dX6_isOfAnother_12 rfl (lv_at hl 1 rfl) ?_
    refine lv_icmp_eq (tgt := 20) hx hb dX6_isOfAnother_13 (by decide) (fun c2 => ?_) (fun c2 => ?_)
    · have hM := (o_if hM).1 c2
      refine lv_iconst (v := 0) hx hb dX6_isOfAnother_20 (by decide) ?_
      have hM := (Option.some.inj hM)
      subst hM
      exact rt_z hx hb hr hlocks hP hD hS (show narrow .boolean (.int 0) = .int 0 from rfl) dX6_isOfAnother_21
    · have hM := (o_if hM).2 c2
      refine lv_iconst (v := 1) hx hb dX6_isOfAnother_16 (by decide) ?_
      refine lv_goto (tgt := 21) hx hb dX6_isOfAnother_17 (by decide) ?_
      have hM := (Option.some.inj hM)
      subst hM
      exact rt_z hx hb hr hlocks hP hD hS (show narrow .boolean (.int 1) = .int 1 from rfl) dX6_isOfAnother_21
/-! ===== TurnQueue$Sheet.holds ===== -/
abbrev w_Sh_holds (cI cJ cS : ClassId) (q_t : Nat) (q_t_cells : Nat) (t_lane : Int32) (t_size : Int32) : va_W := [(q_t, .inr (6, [.ref q_t_cells, .int t_lane, .int t_size]))]
abbrev rm_Sh_holds : Room := { frames := 0, cells := 0, slots := 0, locals := 0 }
noncomputable def Sh_holds (p_i : Int32) (p_n : Int32) (t_size : Int32) : Option (Int32) :=
  if p_i < 0 then
    some 0
  else
    if p_n < 0 then
      some 0
    else
      if t_size < p_i then
        some 0
      else
        if (t_size - p_i) < p_n then
          some 0
        else
          some 1
set_option maxRecDepth 100000 in
set_option maxHeartbeats 4000000 in
theorem c_Sh_holds (l : Launch) (D : va_G) (cI cJ cS : ClassId) (q_t q_t_cells : Nat) (t_lane : Int32) (t_size : Int32) (p_i : Int32) (p_n : Int32) (o : Int32) (hM : Sh_holds p_i p_n t_size = some o) : Ci l yX6_holds wsX6_holds rm_Sh_holds D cI cJ cS [.ref q_t, .int p_i, .int p_n] (w_Sh_holds cI cJ cS q_t q_t_cells t_lane t_size) (w_Sh_holds cI cJ cS q_t q_t_cells t_lane t_size) o := by
  refine Ci.of (cc := cX6_holds) (maxL := 3) (ret := (some .boolean)) (by decide) rfl (Nat.le_of_ble_eq_true rfl) ?_
  intro p e s m args below meth c A ls hE
  obtain ⟨hx, hb, hr, hml, hown, hts, hlocks, hK, hA, hP, hD, hS, hl⟩ := hE
  have hown : s.vm.findClass RX6 = some m.cls := hown
  have hl : lv_has ls 3 [(0, .ref q_t), (1, .int p_i), (2, .int p_n)] := hl
  have iX6 : ∀ w ∈ u_ws RX6 TX6 3, w ∈ wsX6_holds := by decide +kernel
  have k0 := hts (.fieldLink RX6 19 "TurnQueue$Sheet" "size" "I") (by decide +kernel)
  unfold Sh_holds at hM
  refine lv_iload_n hx hb dX6_holds_0 rfl (lv_at hl 1 rfl) ?_
  refine lv_if_lt (tgt := 30) hx hb dX6_holds_1 (by decide) (fun c1 => ?_) (fun c1 => ?_)
  · have hM := (o_if hM).1 c1
    refine lv_iconst (v := 0) hx hb dX6_holds_30 (by decide) ?_
    have hM := (Option.some.inj hM)
    subst hM
    exact rt_z hx hb hr hlocks hP hD hS (show narrow .boolean (.int 0) = .int 0 from rfl) dX6_holds_31
  · have hM := (o_if hM).2 c1
    refine lv_iload_n hx hb dX6_holds_4 rfl (lv_at hl 2 rfl) ?_
    refine lv_if_lt (tgt := 30) hx hb dX6_holds_5 (by decide) (fun c2 => ?_) (fun c2 => ?_)
    · have hM := (o_if hM).1 c2
      refine lv_iconst (v := 0) hx hb dX6_holds_30 (by decide) ?_
      have hM := (Option.some.inj hM)
      subst hM
      exact rt_z hx hb hr hlocks hP hD hS (show narrow .boolean (.int 0) = .int 0 from rfl) dX6_holds_31
    · have hM := (o_if hM).2 c2
      refine lv_iload_n hx hb dX6_holds_8 rfl (lv_at hl 1 rfl) ?_
      refine lv_aload_n hx hb dX6_holds_9 rfl (lv_at hl 0 rfl) ?_
      refine va_get (ci := 6) (v := .int t_size) (C := RX6) (T := TX6) (N := 3) hx hb hts iX6 hown hK.1 hP 0 rfl rfl 2 (Nat.le_of_ble_eq_true rfl) k0 (fun _ h9 => h9) rfl dX6_holds_10 ?_
      refine lv_icmp_gt (tgt := 30) hx hb dX6_holds_13 (by decide) (fun c3 => ?_) (fun c3 => ?_)
      · have hM := (o_if hM).1 c3
        refine lv_iconst (v := 0) hx hb dX6_holds_30 (by decide) ?_
        have hM := (Option.some.inj hM)
        subst hM
        exact rt_z hx hb hr hlocks hP hD hS (show narrow .boolean (.int 0) = .int 0 from rfl) dX6_holds_31
      · have hM := (o_if hM).2 c3
        refine lv_iload_n hx hb dX6_holds_16 rfl (lv_at hl 2 rfl) ?_
        refine lv_aload_n hx hb dX6_holds_17 rfl (lv_at hl 0 rfl) ?_
        refine va_get (ci := 6) (v := .int t_size) (C := RX6) (T := TX6) (N := 3) hx hb hts iX6 hown hK.1 hP 0 rfl rfl 2 (Nat.le_of_ble_eq_true rfl) k0 (fun _ h9 => h9) rfl dX6_holds_18 ?_
        refine lv_iload_n hx hb dX6_holds_21 rfl (lv_at hl 1 rfl) ?_
        refine lv_isub hx hb dX6_holds_22 ?_
        refine lv_icmp_gt (tgt := 30) hx hb dX6_holds_23 (by decide) (fun c4 => ?_) (fun c4 => ?_)
        · have hM := (o_if hM).1 c4
          refine lv_iconst (v := 0) hx hb dX6_holds_30 (by decide) ?_
          have hM := (Option.some.inj hM)
          subst hM
          exact rt_z hx hb hr hlocks hP hD hS (show narrow .boolean (.int 0) = .int 0 from rfl) dX6_holds_31
        · have hM := (o_if hM).2 c4
          refine lv_iconst (v := 1) hx hb dX6_holds_26 (by decide) ?_
          refine lv_goto (tgt := 31) hx hb dX6_holds_27 (by decide) ?_
          have hM := (Option.some.inj hM)
          subst hM
          exact rt_z hx hb hr hlocks hP hD hS (show narrow .boolean (.int 1) = .int 1 from rfl) dX6_holds_31
/-! ===== TurnQueue$Sheet.begin ===== -/
abbrev w_Sh_begin (cI cJ cS : ClassId) (q_t : Nat) (q_t_cells : Nat) (t_lane : Int32) (t_size : Int32) (t_cells : Nat → Int32) : va_W := [(q_t, .inr (6, [.ref q_t_cells, .int t_lane, .int t_size])), (q_t_cells, ar cI 60 t_cells)]
abbrev rm_Sh_begin : Room := { frames := 0, cells := 0, slots := 0, locals := 0 }
noncomputable def Sh_begin_b23 (p_newLane : Int32) (p_newSize : Int32) (x3 : Int32) (t_lane : Int32) (t_size : Int32) (t_cells : Nat → Int32) : Option ((Int32 × Int32 × Int32 × (Nat → Int32)) ⊕ (Int32 × Int32 × (Nat → Int32))) :=
  if 60 ≤ x3 then
    some (.inr (t_lane, t_size, t_cells))
  else
    if ck x3 60 = true then
      lt (x3 + 1) fun y5 =>
      some (.inl (y5, t_lane, t_size, upd t_cells x3.toNatClampNeg 0))
    else none
noncomputable def Sh_begin_s23 (p_newLane : Int32) (p_newSize : Int32) : (Int32 × Int32 × Int32 × (Nat → Int32)) → Option ((Int32 × Int32 × Int32 × (Nat → Int32)) ⊕ (Int32 × Int32 × (Nat → Int32))) := fun x => Sh_begin_b23 p_newLane p_newSize x.1 x.2.1 x.2.2.1 x.2.2.2
noncomputable def Sh_begin_l23 (p_newLane : Int32) (p_newSize : Int32) (x3 : Int32) (t_lane : Int32) (t_size : Int32) (t_cells : Nat → Int32) : Option (Int32 × Int32 × (Nat → Int32)) := fin (Sh_begin_s23 p_newLane p_newSize) (x3, t_lane, t_size, t_cells)
noncomputable def Sh_begin (p_newLane : Int32) (p_newSize : Int32) (t_lane : Int32) (t_size : Int32) (t_cells : Nat → Int32) : Option (Int32 × Int32 × (Nat → Int32)) :=
  if p_newSize < 0 then
    some (t_lane, t_size, t_cells)
  else
    if p_newSize ≤ 60 then
      Sh_begin_l23 p_newLane p_newSize 0 p_newLane p_newSize t_cells
    else
      some (t_lane, t_size, t_cells)
theorem Sh_begin_l23_eq (p_newLane : Int32) (p_newSize : Int32) (x3 : Int32) (t_lane : Int32) (t_size : Int32) (t_cells : Nat → Int32) : Sh_begin_l23 p_newLane p_newSize x3 t_lane t_size t_cells = (Sh_begin_b23 p_newLane p_newSize x3 t_lane t_size t_cells).bind (sg (fin (Sh_begin_s23 p_newLane p_newSize))) := by
  unfold Sh_begin_l23
  exact fin_eq _ _
theorem Sh_begin_l23_fd (p_newLane : Int32) (p_newSize : Int32) (x3 : Int32) (t_lane : Int32) (t_size : Int32) (t_cells : Nat → Int32) : fin (Sh_begin_s23 p_newLane p_newSize) (x3, t_lane, t_size, t_cells) = Sh_begin_l23 p_newLane p_newSize x3 t_lane t_size t_cells := rfl
set_option maxRecDepth 100000 in
set_option maxHeartbeats 4000000 in
theorem c_Sh_begin (l : Launch) (D : va_G) (cI cJ cS : ClassId) (q_t q_t_cells : Nat) (t_lane : Int32) (t_size : Int32) (t_cells : Nat → Int32) (p_newLane : Int32) (p_newSize : Int32) (o : Int32 × Int32 × (Nat → Int32)) (hM : Sh_begin p_newLane p_newSize t_lane t_size t_cells = some o) : Cv l yX6_begin wsX6_begin rm_Sh_begin D cI cJ cS [.ref q_t, .int p_newLane, .int p_newSize] (w_Sh_begin cI cJ cS q_t q_t_cells t_lane t_size t_cells) (w_Sh_begin cI cJ cS q_t q_t_cells o.1 o.2.1 o.2.2) := by
  refine Cv.of (cc := cX6_begin) (maxL := 4) (ret := none) (by decide) rfl (Nat.le_of_ble_eq_true rfl) ?_
  intro p e s m args below meth c A ls hE
  obtain ⟨hx, hb, hr, hml, hown, hts, hlocks, hK, hA, hP, hD, hS, hl⟩ := hE
  have hown : s.vm.findClass RX6 = some m.cls := hown
  have hl : lv_has ls 4 [(0, .ref q_t), (1, .int p_newLane), (2, .int p_newSize)] := hl
  have iX6 : ∀ w ∈ u_ws RX6 TX6 3, w ∈ wsX6_begin := by decide +kernel
  have k0 := hts (.fieldLink RX6 15 "TurnQueue$Sheet" "lane" "I") (by decide +kernel)
  have k1 := hts (.fieldLink RX6 19 "TurnQueue$Sheet" "size" "I") (by decide +kernel)
  have k2 := hts (.fieldLink RX6 9 "TurnQueue$Sheet" "cells" "[I") (by decide +kernel)
  have L23 : ∀ n : Nat, (∀ (x3 : Int32) (t_lane : Int32) (t_size : Int32) (t_cells : Nat → Int32), itr (Sh_begin_s23 p_newLane p_newSize) n (x3, t_lane, t_size, t_cells) = some o → ∀ (H : Heap) (locs : List Loc), va_P D vwCl (w_Sh_begin cI cJ cS q_t q_t_cells t_lane t_size t_cells) H → va_D A (w_Sh_begin cI cJ cS q_t q_t_cells t_lane t_size t_cells) → va_S A s.heap H locs → ∀ ls : Array Slot, lv_has ls 4 [(0, .ref q_t), (3, .int x3)] → W p l e (headSpec wsX6_begin rm_Sh_begin).room s m args below meth c H locs 0 0 (MQ below (CQv D (w_Sh_begin cI cJ cS q_t q_t_cells o.1 o.2.1 o.2.2) A) args s 0 0 A) (F0 m 23 ls [])) := by
    intro n
    induction n with
    | zero => exact fun _ _ _ _ hM => (itr_0 hM).elim
    | succ n ih =>
      intro x3 t_lane t_size t_cells hM H locs hP hD hS ls hl
      have hM : (Sh_begin_b23 p_newLane p_newSize x3 t_lane t_size t_cells).bind (sg (itr (Sh_begin_s23 p_newLane p_newSize) n)) = some o := hM
      unfold Sh_begin_b23 at hM
      refine lv_iload_n hx hb dX6_begin_23 rfl (lv_at hl 1 rfl) ?_
      refine lv_bipush (v := 60) hx hb dX6_begin_24 (by decide) ?_
      refine lv_icmp_ge (tgt := 42) hx hb dX6_begin_26 (by decide) (fun c3 => ?_) (fun c3 => ?_)
      · have hM := (s_if hM).1 c3
        have hM := (Option.some.inj (s_rt hM))
        subst hM
        exact rt_v hx hb hr hlocks hP hD hS dX6_begin_42
      · have hM := (s_if hM).2 c3
        refine lv_aload_n hx hb dX6_begin_29 rfl (lv_at hl 0 rfl) ?_
        refine va_get (ci := 6) (v := .ref q_t_cells) (C := RX6) (T := TX6) (N := 3) hx hb hts iX6 hown hK.1 hP 0 rfl rfl 0 (Nat.le_of_ble_eq_true rfl) k2 (fun _ h9 => h9) rfl dX6_begin_30 ?_
        refine lv_iload_n hx hb dX6_begin_33 rfl (lv_at hl 1 rfl) ?_
        refine lv_iconst (v := 0) hx hb dX6_begin_34 (by decide) ?_
        obtain ⟨h4, hM⟩ := s_ck hM
        refine va_iast hx hb hK.1 hP hD hS 1 0 rfl rfl h4 dX6_begin_35 (fun H locs hP hD hS => ?_)
        have hP : va_P D vwCl (w_Sh_begin cI cJ cS q_t q_t_cells t_lane t_size (upd t_cells x3.toNatClampNeg 0)) H := hP
        have hD : va_D A (w_Sh_begin cI cJ cS q_t q_t_cells t_lane t_size (upd t_cells x3.toNatClampNeg 0)) := hD
        obtain ⟨y5, ey5⟩ : ∃ y : Int32, y = x3 + 1 := ⟨_, rfl⟩
        have hM := s_lt hM y5 ey5
        refine lv_iinc (v := y5) (lv' := [(3, .int y5), (0, .ref q_t)]) hx hb dX6_begin_36 hl (k := 1) rfl (by rw [ey5]; rfl) (Nat.le_of_ble_eq_true rfl) rfl (fun ls hl => ?_)
        refine lv_goto (tgt := 23) hx hb dX6_begin_39 (by decide) ?_
        exact ih y5 t_lane t_size (upd t_cells x3.toNatClampNeg 0) (s_jp hM) _ _ hP hD hS _ (lv_sub hl [1, 0] rfl)
  have J23 : ∀ (x3 : Int32) (t_lane : Int32) (t_size : Int32) (t_cells : Nat → Int32), Sh_begin_l23 p_newLane p_newSize x3 t_lane t_size t_cells = some o → ∀ (H : Heap) (locs : List Loc), va_P D vwCl (w_Sh_begin cI cJ cS q_t q_t_cells t_lane t_size t_cells) H → va_D A (w_Sh_begin cI cJ cS q_t q_t_cells t_lane t_size t_cells) → va_S A s.heap H locs → ∀ ls : Array Slot, lv_has ls 4 [(0, .ref q_t), (3, .int x3)] → W p l e (headSpec wsX6_begin rm_Sh_begin).room s m args below meth c H locs 0 0 (MQ below (CQv D (w_Sh_begin cI cJ cS q_t q_t_cells o.1 o.2.1 o.2.2) A) args s 0 0 A) (F0 m 23 ls []) := by
    intro x3 t_lane t_size t_cells hM
    unfold Sh_begin_l23 at hM
    obtain ⟨n0, hM⟩ := fin_some hM
    exact (L23 n0) x3 t_lane t_size t_cells hM
  unfold Sh_begin at hM
  refine lv_iload_n hx hb dX6_begin_0 rfl (lv_at hl 2 rfl) ?_
  refine lv_if_lt (tgt := 10) hx hb dX6_begin_1 (by decide) (fun c1 => ?_) (fun c1 => ?_)
  · have hM := (o_if hM).1 c1
    have hM := (Option.some.inj hM)
    subst hM
    exact rt_v hx hb hr hlocks hP hD hS dX6_begin_10
  · have hM := (o_if hM).2 c1
    refine lv_iload_n hx hb dX6_begin_4 rfl (lv_at hl 2 rfl) ?_
    refine lv_bipush (v := 60) hx hb dX6_begin_5 (by decide) ?_
    refine lv_icmp_le (tgt := 11) hx hb dX6_begin_7 (by decide) (fun c2 => ?_) (fun c2 => ?_)
    · have hM := (o_if hM).1 c2
      refine lv_aload_n hx hb dX6_begin_11 rfl (lv_at hl 0 rfl) ?_
      refine lv_iload_n hx hb dX6_begin_12 rfl (lv_at hl 1 rfl) ?_
      refine va_put (ci := 6) (v := .int p_newLane) (ty := .int) (C := RX6) (T := TX6) (N := 3) hx hb hts iX6 tyX6 tyX6_ok nmX6 hown hK.1 hP hD hS 0 rfl rfl 1 (Nat.le_of_ble_eq_true rfl) k0 (fun _ h9 => h9) rfl (tyX6_ok 1 (Nat.le_of_ble_eq_true rfl)) rfl rfl (Nat.le_of_ble_eq_true rfl) dX6_begin_13 (fun H locs hP hD hS => ?_)
      have hP : va_P D vwCl (w_Sh_begin cI cJ cS q_t q_t_cells p_newLane t_size t_cells) H := hP
      have hD : va_D A (w_Sh_begin cI cJ cS q_t q_t_cells p_newLane t_size t_cells) := hD
      refine lv_aload_n hx hb dX6_begin_16 rfl (lv_at hl 0 rfl) ?_
      refine lv_iload_n hx hb dX6_begin_17 rfl (lv_at hl 2 rfl) ?_
      refine va_put (ci := 6) (v := .int p_newSize) (ty := .int) (C := RX6) (T := TX6) (N := 3) hx hb hts iX6 tyX6 tyX6_ok nmX6 hown hK.1 hP hD hS 0 rfl rfl 2 (Nat.le_of_ble_eq_true rfl) k1 (fun _ h9 => h9) rfl (tyX6_ok 2 (Nat.le_of_ble_eq_true rfl)) rfl rfl (Nat.le_of_ble_eq_true rfl) dX6_begin_18 (fun H locs hP hD hS => ?_)
      have hP : va_P D vwCl (w_Sh_begin cI cJ cS q_t q_t_cells p_newLane p_newSize t_cells) H := hP
      have hD : va_D A (w_Sh_begin cI cJ cS q_t q_t_cells p_newLane p_newSize t_cells) := hD
      refine lv_iconst (v := 0) hx hb dX6_begin_21 (by decide) ?_
      refine lv_istore_n (lv' := [(3, .int 0), (0, .ref q_t), (1, .int p_newLane), (2, .int p_newSize)]) hx hb dX6_begin_22 rfl hl (Nat.le_of_ble_eq_true rfl) rfl (fun ls hl => ?_)
      exact J23 0 p_newLane p_newSize t_cells hM _ _ hP hD hS _ (lv_sub hl [1, 0] rfl)
    · have hM := (o_if hM).2 c2
      have hM := (Option.some.inj hM)
      subst hM
      exact rt_v hx hb hr hlocks hP hD hS dX6_begin_10
/-! ===== TurnQueue$Sheet.drop ===== -/
abbrev w_Sh_drop (cI cJ cS : ClassId) (q_t : Nat) (q_t_cells : Nat) (t_lane : Int32) (t_size : Int32) : va_W := [(q_t, .inr (6, [.ref q_t_cells, .int t_lane, .int t_size]))]
abbrev rm_Sh_drop : Room := { frames := 0, cells := 0, slots := 0, locals := 0 }
noncomputable def Sh_drop (t_lane : Int32) (t_size : Int32) : Option (Int32 × Int32) :=
  some ((-1), 0)
set_option maxRecDepth 100000 in
set_option maxHeartbeats 4000000 in
theorem c_Sh_drop (l : Launch) (D : va_G) (cI cJ cS : ClassId) (q_t q_t_cells : Nat) (t_lane : Int32) (t_size : Int32) (o : Int32 × Int32) (hM : Sh_drop t_lane t_size = some o) : Cv l yX6_drop wsX6_drop rm_Sh_drop D cI cJ cS [.ref q_t] (w_Sh_drop cI cJ cS q_t q_t_cells t_lane t_size) (w_Sh_drop cI cJ cS q_t q_t_cells o.1 o.2) := by
  refine Cv.of (cc := cX6_drop) (maxL := 1) (ret := none) (by decide) rfl (Nat.le_of_ble_eq_true rfl) ?_
  intro p e s m args below meth c A ls hE
  obtain ⟨hx, hb, hr, hml, hown, hts, hlocks, hK, hA, hP, hD, hS, hl⟩ := hE
  have hown : s.vm.findClass RX6 = some m.cls := hown
  have hl : lv_has ls 1 [(0, .ref q_t)] := hl
  have iX6 : ∀ w ∈ u_ws RX6 TX6 3, w ∈ wsX6_drop := by decide +kernel
  have k0 := hts (.fieldLink RX6 15 "TurnQueue$Sheet" "lane" "I") (by decide +kernel)
  have k1 := hts (.fieldLink RX6 19 "TurnQueue$Sheet" "size" "I") (by decide +kernel)
  unfold Sh_drop at hM
  refine lv_aload_n hx hb dX6_drop_0 rfl (lv_at hl 0 rfl) ?_
  refine lv_iconst (v := (-1)) hx hb dX6_drop_1 (by decide) ?_
  refine va_put (ci := 6) (v := .int (-1)) (ty := .int) (C := RX6) (T := TX6) (N := 3) hx hb hts iX6 tyX6 tyX6_ok nmX6 hown hK.1 hP hD hS 0 rfl rfl 1 (Nat.le_of_ble_eq_true rfl) k0 (fun _ h9 => h9) rfl (tyX6_ok 1 (Nat.le_of_ble_eq_true rfl)) rfl rfl (Nat.le_of_ble_eq_true rfl) dX6_drop_2 (fun H locs hP hD hS => ?_)
  have hP : va_P D vwCl (w_Sh_drop cI cJ cS q_t q_t_cells (-1) t_size) H := hP
  have hD : va_D A (w_Sh_drop cI cJ cS q_t q_t_cells (-1) t_size) := hD
  refine lv_aload_n hx hb dX6_drop_5 rfl (lv_at hl 0 rfl) ?_
  refine lv_iconst (v := 0) hx hb dX6_drop_6 (by decide) ?_
  refine va_put (ci := 6) (v := .int 0) (ty := .int) (C := RX6) (T := TX6) (N := 3) hx hb hts iX6 tyX6 tyX6_ok nmX6 hown hK.1 hP hD hS 0 rfl rfl 2 (Nat.le_of_ble_eq_true rfl) k1 (fun _ h9 => h9) rfl (tyX6_ok 2 (Nat.le_of_ble_eq_true rfl)) rfl rfl (Nat.le_of_ble_eq_true rfl) dX6_drop_7 (fun H locs hP hD hS => ?_)
  have hP : va_P D vwCl (w_Sh_drop cI cJ cS q_t q_t_cells (-1) 0) H := hP
  have hD : va_D A (w_Sh_drop cI cJ cS q_t q_t_cells (-1) 0) := hD
  have hM := (Option.some.inj hM)
  subst hM
  exact rt_v hx hb hr hlocks hP hD hS dX6_drop_10
/-! ===== TurnQueue$Sheet.at ===== -/
abbrev w_Sh_at (cI cJ cS : ClassId) (q_t : Nat) (q_t_cells : Nat) (t_lane : Int32) (t_size : Int32) (t_cells : Nat → Int32) : va_W := [(q_t, .inr (6, [.ref q_t_cells, .int t_lane, .int t_size])), (q_t_cells, ar cI 60 t_cells)]
abbrev rm_Sh_at : Room := { frames := 0, cells := 0, slots := 0, locals := 0 }
noncomputable def Sh_at (p_i : Int32) (t_size : Int32) (t_cells : Nat → Int32) : Option (Int32) :=
  if p_i < 0 then
    some 0
  else
    if t_size ≤ p_i then
      some 0
    else
      if ck p_i 60 = true then
        some (t_cells p_i.toNatClampNeg)
      else none
set_option maxRecDepth 100000 in
set_option maxHeartbeats 4000000 in
theorem c_Sh_at (l : Launch) (D : va_G) (cI cJ cS : ClassId) (q_t q_t_cells : Nat) (t_lane : Int32) (t_size : Int32) (t_cells : Nat → Int32) (p_i : Int32) (o : Int32) (hM : Sh_at p_i t_size t_cells = some o) : Ci l yX6_at wsX6_at rm_Sh_at D cI cJ cS [.ref q_t, .int p_i] (w_Sh_at cI cJ cS q_t q_t_cells t_lane t_size t_cells) (w_Sh_at cI cJ cS q_t q_t_cells t_lane t_size t_cells) o := by
  refine Ci.of (cc := cX6_at) (maxL := 2) (ret := (some .int)) (by decide) rfl (Nat.le_of_ble_eq_true rfl) ?_
  intro p e s m args below meth c A ls hE
  obtain ⟨hx, hb, hr, hml, hown, hts, hlocks, hK, hA, hP, hD, hS, hl⟩ := hE
  have hown : s.vm.findClass RX6 = some m.cls := hown
  have hl : lv_has ls 2 [(0, .ref q_t), (1, .int p_i)] := hl
  have iX6 : ∀ w ∈ u_ws RX6 TX6 3, w ∈ wsX6_at := by decide +kernel
  have k0 := hts (.fieldLink RX6 19 "TurnQueue$Sheet" "size" "I") (by decide +kernel)
  have k1 := hts (.fieldLink RX6 9 "TurnQueue$Sheet" "cells" "[I") (by decide +kernel)
  unfold Sh_at at hM
  refine lv_iload_n hx hb dX6_at_0 rfl (lv_at hl 1 rfl) ?_
  refine lv_if_lt (tgt := 21) hx hb dX6_at_1 (by decide) (fun c1 => ?_) (fun c1 => ?_)
  · have hM := (o_if hM).1 c1
    refine lv_iconst (v := 0) hx hb dX6_at_21 (by decide) ?_
    have hM := (Option.some.inj hM)
    subst hM
    exact rt_i hx hb hr hlocks hP hD hS dX6_at_22
  · have hM := (o_if hM).2 c1
    refine lv_iload_n hx hb dX6_at_4 rfl (lv_at hl 1 rfl) ?_
    refine lv_aload_n hx hb dX6_at_5 rfl (lv_at hl 0 rfl) ?_
    refine va_get (ci := 6) (v := .int t_size) (C := RX6) (T := TX6) (N := 3) hx hb hts iX6 hown hK.1 hP 0 rfl rfl 2 (Nat.le_of_ble_eq_true rfl) k0 (fun _ h9 => h9) rfl dX6_at_6 ?_
    refine lv_icmp_ge (tgt := 21) hx hb dX6_at_9 (by decide) (fun c2 => ?_) (fun c2 => ?_)
    · have hM := (o_if hM).1 c2
      refine lv_iconst (v := 0) hx hb dX6_at_21 (by decide) ?_
      have hM := (Option.some.inj hM)
      subst hM
      exact rt_i hx hb hr hlocks hP hD hS dX6_at_22
    · have hM := (o_if hM).2 c2
      refine lv_aload_n hx hb dX6_at_12 rfl (lv_at hl 0 rfl) ?_
      refine va_get (ci := 6) (v := .ref q_t_cells) (C := RX6) (T := TX6) (N := 3) hx hb hts iX6 hown hK.1 hP 0 rfl rfl 0 (Nat.le_of_ble_eq_true rfl) k1 (fun _ h9 => h9) rfl dX6_at_13 ?_
      refine lv_iload_n hx hb dX6_at_16 rfl (lv_at hl 1 rfl) ?_
      obtain ⟨h3, hM⟩ := o_ck hM
      refine va_iald hx hb hK.1 hP 1 0 rfl rfl h3 dX6_at_17 ?_
      refine lv_goto (tgt := 22) hx hb dX6_at_18 (by decide) ?_
      have hM := (Option.some.inj hM)
      subst hM
      exact rt_i hx hb hr hlocks hP hD hS dX6_at_22
/-! ===== TurnQueue$Sheet.cut ===== -/
abbrev w_Sh_cut (cI cJ cS : ClassId) (q_t : Nat) (q_t_cells : Nat) (t_lane : Int32) (t_size : Int32) : va_W := [(q_t, .inr (6, [.ref q_t_cells, .int t_lane, .int t_size]))]
abbrev rm_Sh_cut : Room := { frames := 0, cells := 0, slots := 0, locals := 0 }
noncomputable def Sh_cut (p_v : Int32) (t_lane : Int32) : Option (Int32) :=
  if t_lane = 0 then
    some p_v.toInt8.toInt32
  else
    if t_lane = 1 then
      some p_v.toInt16.toInt32
    else
      some p_v
set_option maxRecDepth 100000 in
set_option maxHeartbeats 4000000 in
theorem c_Sh_cut (l : Launch) (D : va_G) (cI cJ cS : ClassId) (q_t q_t_cells : Nat) (t_lane : Int32) (t_size : Int32) (p_v : Int32) (o : Int32) (hM : Sh_cut p_v t_lane = some o) : Ci l yX6_cut wsX6_cut rm_Sh_cut D cI cJ cS [.ref q_t, .int p_v] (w_Sh_cut cI cJ cS q_t q_t_cells t_lane t_size) (w_Sh_cut cI cJ cS q_t q_t_cells t_lane t_size) o := by
  refine Ci.of (cc := cX6_cut) (maxL := 2) (ret := (some .int)) (by decide) rfl (Nat.le_of_ble_eq_true rfl) ?_
  intro p e s m args below meth c A ls hE
  obtain ⟨hx, hb, hr, hml, hown, hts, hlocks, hK, hA, hP, hD, hS, hl⟩ := hE
  have hown : s.vm.findClass RX6 = some m.cls := hown
  have hl : lv_has ls 2 [(0, .ref q_t), (1, .int p_v)] := hl
  have iX6 : ∀ w ∈ u_ws RX6 TX6 3, w ∈ wsX6_cut := by decide +kernel
  have k0 := hts (.fieldLink RX6 15 "TurnQueue$Sheet" "lane" "I") (by decide +kernel)
  unfold Sh_cut at hM
  refine lv_aload_n hx hb dX6_cut_0 rfl (lv_at hl 0 rfl) ?_
  refine va_get (ci := 6) (v := .int t_lane) (C := RX6) (T := TX6) (N := 3) hx hb hts iX6 hown hK.1 hP 0 rfl rfl 1 (Nat.le_of_ble_eq_true rfl) k0 (fun _ h9 => h9) rfl dX6_cut_1 ?_
  refine lv_if_ne (tgt := 10) hx hb dX6_cut_4 (by decide) (fun c1 => ?_) (fun c1 => ?_)
  · have hM := (o_if hM).2 c1
    refine lv_aload_n hx hb dX6_cut_10 rfl (lv_at hl 0 rfl) ?_
    refine va_get (ci := 6) (v := .int t_lane) (C := RX6) (T := TX6) (N := 3) hx hb hts iX6 hown hK.1 hP 0 rfl rfl 1 (Nat.le_of_ble_eq_true rfl) k0 (fun _ h9 => h9) rfl dX6_cut_11 ?_
    refine lv_iconst (v := 1) hx hb dX6_cut_14 (by decide) ?_
    refine lv_icmp_ne (tgt := 23) hx hb dX6_cut_15 (by decide) (fun c2 => ?_) (fun c2 => ?_)
    · have hM := (o_if hM).2 c2
      refine lv_iload_n hx hb dX6_cut_23 rfl (lv_at hl 1 rfl) ?_
      have hM := (Option.some.inj hM)
      subst hM
      exact rt_i hx hb hr hlocks hP hD hS dX6_cut_24
    · have hM := (o_if hM).1 c2
      refine lv_iload_n hx hb dX6_cut_18 rfl (lv_at hl 1 rfl) ?_
      refine lv_i2s (v := p_v.toInt16.toInt32) hx hb dX6_cut_19 rfl ?_
      refine lv_goto (tgt := 24) hx hb dX6_cut_20 (by decide) ?_
      have hM := (Option.some.inj hM)
      subst hM
      exact rt_i hx hb hr hlocks hP hD hS dX6_cut_24
  · have hM := (o_if hM).1 c1
    refine lv_iload_n hx hb dX6_cut_7 rfl (lv_at hl 1 rfl) ?_
    refine lv_i2b (v := p_v.toInt8.toInt32) hx hb dX6_cut_8 rfl ?_
    have hM := (Option.some.inj hM)
    subst hM
    exact rt_i hx hb hr hlocks hP hD hS dX6_cut_9
/-! ===== TurnQueue$Sheet.write ===== -/
abbrev w_Sh_write (cI cJ cS : ClassId) (q_t : Nat) (q_t_cells : Nat) (t_lane : Int32) (t_size : Int32) (t_cells : Nat → Int32) : va_W := [(q_t, .inr (6, [.ref q_t_cells, .int t_lane, .int t_size])), (q_t_cells, ar cI 60 t_cells)]
abbrev rm_Sh_write : Room := { frames := 1, cells := 0, slots := 0, locals := 21 }
noncomputable def Sh_write (p_i : Int32) (p_v : Int32) (t_lane : Int32) (t_size : Int32) (t_cells : Nat → Int32) : Option ((Nat → Int32)) :=
  if p_i < 0 then
    some t_cells
  else
    if p_i < t_size then
      (Sh_cut p_v t_lane).bind fun y3 =>
      if ck p_i 60 = true then
        some (upd t_cells p_i.toNatClampNeg y3)
      else none
    else
      some t_cells
set_option maxRecDepth 100000 in
set_option maxHeartbeats 4000000 in
theorem c_Sh_write (l : Launch) (D : va_G) (cI cJ cS : ClassId) (q_t q_t_cells : Nat) (t_lane : Int32) (t_size : Int32) (t_cells : Nat → Int32) (p_i : Int32) (p_v : Int32) (o : (Nat → Int32)) (hM : Sh_write p_i p_v t_lane t_size t_cells = some o) : Cv l yX6_write wsX6_write rm_Sh_write D cI cJ cS [.ref q_t, .int p_i, .int p_v] (w_Sh_write cI cJ cS q_t q_t_cells t_lane t_size t_cells) (w_Sh_write cI cJ cS q_t q_t_cells t_lane t_size o) := by
  refine Cv.of (cc := cX6_write) (maxL := 3) (ret := none) (by decide) rfl (Nat.le_of_ble_eq_true rfl) ?_
  intro p e s m args below meth c A ls hE
  obtain ⟨hx, hb, hr, hml, hown, hts, hlocks, hK, hA, hP, hD, hS, hl⟩ := hE
  have hown : s.vm.findClass RX6 = some m.cls := hown
  have hl : lv_has ls 3 [(0, .ref q_t), (1, .int p_i), (2, .int p_v)] := hl
  have iX6 : ∀ w ∈ u_ws RX6 TX6 3, w ∈ wsX6_write := by decide +kernel
  have k0 := hts (.fieldLink RX6 19 "TurnQueue$Sheet" "size" "I") (by decide +kernel)
  have k1 := hts (.fieldLink RX6 9 "TurnQueue$Sheet" "cells" "[I") (by decide +kernel)
  unfold Sh_write at hM
  refine lv_iload_n hx hb dX6_write_0 rfl (lv_at hl 1 rfl) ?_
  refine lv_if_lt (tgt := 12) hx hb dX6_write_1 (by decide) (fun c1 => ?_) (fun c1 => ?_)
  · have hM := (o_if hM).1 c1
    have hM := (Option.some.inj hM)
    subst hM
    exact rt_v hx hb hr hlocks hP hD hS dX6_write_12
  · have hM := (o_if hM).2 c1
    refine lv_iload_n hx hb dX6_write_4 rfl (lv_at hl 1 rfl) ?_
    refine lv_aload_n hx hb dX6_write_5 rfl (lv_at hl 0 rfl) ?_
    refine va_get (ci := 6) (v := .int t_size) (C := RX6) (T := TX6) (N := 3) hx hb hts iX6 hown hK.1 hP 0 rfl rfl 2 (Nat.le_of_ble_eq_true rfl) k0 (fun _ h9 => h9) rfl dX6_write_6 ?_
    refine lv_icmp_lt (tgt := 13) hx hb dX6_write_9 (by decide) (fun c2 => ?_) (fun c2 => ?_)
    · have hM := (o_if hM).1 c2
      refine lv_aload_n hx hb dX6_write_13 rfl (lv_at hl 0 rfl) ?_
      refine va_get (ci := 6) (v := .ref q_t_cells) (C := RX6) (T := TX6) (N := 3) hx hb hts iX6 hown hK.1 hP 0 rfl rfl 0 (Nat.le_of_ble_eq_true rfl) k1 (fun _ h9 => h9) rfl dX6_write_14 ?_
      refine lv_iload_n hx hb dX6_write_17 rfl (lv_at hl 1 rfl) ?_
      refine lv_aload_n hx hb dX6_write_18 rfl (lv_at hl 0 rfl) ?_
      refine lv_iload_n hx hb dX6_write_19 rfl (lv_at hl 2 rfl) ?_
      obtain ⟨y3, h4, hM⟩ := o_bd hM
      refine af_i (ws2 := (w_Sh_write cI cJ cS q_t q_t_cells t_lane t_size t_cells)) (va_runV (As := [.int p_v]) (rest := [.int p_i, .ref q_t_cells]) ⟨hx, hb, hml, hown, hts⟩ (c_Sh_cut l D cI cJ cS q_t q_t_cells t_lane t_size p_v y3 h4 _) (cwV 1 hts gX6_write_X6_cut rfl rfl rfl (by decide +kernel) ⟨(Nat.le_of_ble_eq_true rfl), (Nat.le_of_ble_eq_true rfl)⟩) (pre_V hK hP hD [0] rfl rfl rfl rfl) rfl rfl hl.1 rfl (lv_room (Nat.le_of_ble_eq_true rfl)) dX6_write_20 ⟨Nat.zero_le _, Nat.zero_le _⟩) hP hD hS hA [0] [1] [1, 0] rfl rfl rfl (by decide) rfl rfl (fun H locs hP hD hS => ?_)
      obtain ⟨h5, hM⟩ := o_ck hM
      refine va_iast hx hb hK.1 hP hD hS 1 0 rfl rfl h5 dX6_write_23 (fun H locs hP hD hS => ?_)
      have hP : va_P D vwCl (w_Sh_write cI cJ cS q_t q_t_cells t_lane t_size (upd t_cells p_i.toNatClampNeg y3)) H := hP
      have hD : va_D A (w_Sh_write cI cJ cS q_t q_t_cells t_lane t_size (upd t_cells p_i.toNatClampNeg y3)) := hD
      have hM := (Option.some.inj hM)
      subst hM
      exact rt_v hx hb hr hlocks hP hD hS dX6_write_24
    · have hM := (o_if hM).2 c2
      have hM := (Option.some.inj hM)
      subst hM
      exact rt_v hx hb hr hlocks hP hD hS dX6_write_12
/-! ===== TurnQueue$Text.goesOn ===== -/
abbrev w_Te_goesOn (cI cJ cS : ClassId) : va_W := []
abbrev rm_Te_goesOn : Room := { frames := 0, cells := 0, slots := 0, locals := 0 }
noncomputable def Te_goesOn (p_place : Int32) (p_code : Int32) : Option (Int32) :=
  if p_place = 0 then
    if p_code = 100 then
      some 1
    else
      some 0
  else
    if p_place = 1 then
      if p_code < 48 then
        some 0
      else
        if 50 < p_code then
          some 0
        else
          some 1
    else
      if p_place < 37 then
        lt ((p_place - 2) - (p_place - 2) / 5 * 5) fun y4 =>
        if y4 = 0 then
          if p_code = 59 then
            some 1
          else
            some 0
        else
          if y4 = 1 then
            if p_code = 112 then
              some 1
            else
              if p_code = 109 then
                some 1
              else
                if p_code = 99 then
                  some 1
                else
                  some 0
          else
            if y4 = 2 then
              if p_code < 48 then
                some 0
              else
                if 53 < p_code then
                  some 0
                else
                  some 1
            else
              if y4 = 3 then
                if p_code < 48 then
                  some 0
                else
                  if 57 < p_code then
                    some 0
                  else
                    some 1
              else
                if p_code < 49 then
                  some 0
                else
                  if 57 < p_code then
                    some 0
                  else
                    some 1
      else
        some 0
set_option maxRecDepth 100000 in
set_option maxHeartbeats 4000000 in
theorem c_Te_goesOn (l : Launch) (D : va_G) (cI cJ cS : ClassId) (p_place : Int32) (p_code : Int32) (o : Int32) (hM : Te_goesOn p_place p_code = some o) : Ci l yX7_goesOn wsX7_goesOn rm_Te_goesOn D cI cJ cS [.int p_place, .int p_code] (w_Te_goesOn cI cJ cS) (w_Te_goesOn cI cJ cS) o := by
  refine Ci.of (cc := cX7_goesOn) (maxL := 2) (ret := (some .boolean)) (by decide) rfl (Nat.le_of_ble_eq_true rfl) ?_
  intro p e s m args below meth c A ls hE
  obtain ⟨hx, hb, hr, hml, hown, hts, hlocks, hK, hA, hP, hD, hS, hl⟩ := hE
  have hown : s.vm.findClass RX7 = some m.cls := hown
  have hl : lv_has ls 2 [(0, .int p_place), (1, .int p_code)] := hl
  unfold Te_goesOn at hM
  refine lv_iload_n hx hb dX7_goesOn_0 rfl (lv_at hl 0 rfl) ?_
  refine lv_if_ne (tgt := 16) hx hb dX7_goesOn_1 (by decide) (fun c1 => ?_) (fun c1 => ?_)
  · have hM := (o_if hM).2 c1
    refine lv_iload_n hx hb dX7_goesOn_16 rfl (lv_at hl 0 rfl) ?_
    refine lv_iconst (v := 1) hx hb dX7_goesOn_17 (by decide) ?_
    refine lv_icmp_ne (tgt := 39) hx hb dX7_goesOn_18 (by decide) (fun c2 => ?_) (fun c2 => ?_)
    · have hM := (o_if hM).2 c2
      refine lv_iload_n hx hb dX7_goesOn_39 rfl (lv_at hl 0 rfl) ?_
      refine lv_bipush (v := 37) hx hb dX7_goesOn_40 (by decide) ?_
      refine lv_icmp_lt (tgt := 47) hx hb dX7_goesOn_42 (by decide) (fun c3 => ?_) (fun c3 => ?_)
      · have hM := (o_if hM).1 c3
        refine lv_iload_n hx hb dX7_goesOn_47 rfl (lv_at hl 0 rfl) ?_
        refine lv_iconst (v := 2) hx hb dX7_goesOn_48 (by decide) ?_
        refine lv_isub hx hb dX7_goesOn_49 ?_
        refine lv_iconst (v := 5) hx hb dX7_goesOn_50 (by decide) ?_
        refine lv_irem hx hb dX7_goesOn_51 (by decide) ?_
        refine lv_topi (fun y4 ey4 => ?_)
        have hM := o_lt hM y4 ey4
        by_cases c5 : y4 = 0
        · have hM := (o_if hM).1 c5
          refine lv_tableIn (off := 32) (tgt := 84) hx hb dX7_goesOn_52 (by rw [c5]; decide) (by rw [c5]; decide) (by rw [c5]; rfl) (by decide) ?_
          refine lv_iload_n hx hb dX7_goesOn_84 rfl (lv_at hl 1 rfl) ?_
          refine lv_bipush (v := 59) hx hb dX7_goesOn_85 (by decide) ?_
          refine lv_icmp_ne (tgt := 94) hx hb dX7_goesOn_87 (by decide) (fun c6 => ?_) (fun c6 => ?_)
          · have hM := (o_if hM).2 c6
            refine lv_iconst (v := 0) hx hb dX7_goesOn_94 (by decide) ?_
            have hM := (Option.some.inj hM)
            subst hM
            exact rt_z hx hb hr hlocks hP hD hS (show narrow .boolean (.int 0) = .int 0 from rfl) dX7_goesOn_95
          · have hM := (o_if hM).1 c6
            refine lv_iconst (v := 1) hx hb dX7_goesOn_90 (by decide) ?_
            refine lv_goto (tgt := 95) hx hb dX7_goesOn_91 (by decide) ?_
            have hM := (Option.some.inj hM)
            subst hM
            exact rt_z hx hb hr hlocks hP hD hS (show narrow .boolean (.int 1) = .int 1 from rfl) dX7_goesOn_95
        have hM := (o_if hM).2 c5
        by_cases c7 : y4 = 1
        · have hM := (o_if hM).1 c7
          refine lv_tableIn (off := 44) (tgt := 96) hx hb dX7_goesOn_52 (by rw [c7]; decide) (by rw [c7]; decide) (by rw [c7]; rfl) (by decide) ?_
          refine lv_iload_n hx hb dX7_goesOn_96 rfl (lv_at hl 1 rfl) ?_
          refine lv_bipush (v := 112) hx hb dX7_goesOn_97 (by decide) ?_
          refine lv_icmp_eq (tgt := 114) hx hb dX7_goesOn_99 (by decide) (fun c8 => ?_) (fun c8 => ?_)
          · have hM := (o_if hM).1 c8
            refine lv_iconst (v := 1) hx hb dX7_goesOn_114 (by decide) ?_
            refine lv_goto (tgt := 119) hx hb dX7_goesOn_115 (by decide) ?_
            have hM := (Option.some.inj hM)
            subst hM
            exact rt_z hx hb hr hlocks hP hD hS (show narrow .boolean (.int 1) = .int 1 from rfl) dX7_goesOn_119
          · have hM := (o_if hM).2 c8
            refine lv_iload_n hx hb dX7_goesOn_102 rfl (lv_at hl 1 rfl) ?_
            refine lv_bipush (v := 109) hx hb dX7_goesOn_103 (by decide) ?_
            refine lv_icmp_eq (tgt := 114) hx hb dX7_goesOn_105 (by decide) (fun c9 => ?_) (fun c9 => ?_)
            · have hM := (o_if hM).1 c9
              refine lv_iconst (v := 1) hx hb dX7_goesOn_114 (by decide) ?_
              refine lv_goto (tgt := 119) hx hb dX7_goesOn_115 (by decide) ?_
              have hM := (Option.some.inj hM)
              subst hM
              exact rt_z hx hb hr hlocks hP hD hS (show narrow .boolean (.int 1) = .int 1 from rfl) dX7_goesOn_119
            · have hM := (o_if hM).2 c9
              refine lv_iload_n hx hb dX7_goesOn_108 rfl (lv_at hl 1 rfl) ?_
              refine lv_bipush (v := 99) hx hb dX7_goesOn_109 (by decide) ?_
              refine lv_icmp_ne (tgt := 118) hx hb dX7_goesOn_111 (by decide) (fun c10 => ?_) (fun c10 => ?_)
              · have hM := (o_if hM).2 c10
                refine lv_iconst (v := 0) hx hb dX7_goesOn_118 (by decide) ?_
                have hM := (Option.some.inj hM)
                subst hM
                exact rt_z hx hb hr hlocks hP hD hS (show narrow .boolean (.int 0) = .int 0 from rfl) dX7_goesOn_119
              · have hM := (o_if hM).1 c10
                refine lv_iconst (v := 1) hx hb dX7_goesOn_114 (by decide) ?_
                refine lv_goto (tgt := 119) hx hb dX7_goesOn_115 (by decide) ?_
                have hM := (Option.some.inj hM)
                subst hM
                exact rt_z hx hb hr hlocks hP hD hS (show narrow .boolean (.int 1) = .int 1 from rfl) dX7_goesOn_119
        have hM := (o_if hM).2 c7
        by_cases c11 : y4 = 2
        · have hM := (o_if hM).1 c11
          refine lv_tableIn (off := 68) (tgt := 120) hx hb dX7_goesOn_52 (by rw [c11]; decide) (by rw [c11]; decide) (by rw [c11]; rfl) (by decide) ?_
          refine lv_iload_n hx hb dX7_goesOn_120 rfl (lv_at hl 1 rfl) ?_
          refine lv_bipush (v := 48) hx hb dX7_goesOn_121 (by decide) ?_
          refine lv_icmp_lt (tgt := 136) hx hb dX7_goesOn_123 (by decide) (fun c12 => ?_) (fun c12 => ?_)
          · have hM := (o_if hM).1 c12
            refine lv_iconst (v := 0) hx hb dX7_goesOn_136 (by decide) ?_
            have hM := (Option.some.inj hM)
            subst hM
            exact rt_z hx hb hr hlocks hP hD hS (show narrow .boolean (.int 0) = .int 0 from rfl) dX7_goesOn_137
          · have hM := (o_if hM).2 c12
            refine lv_iload_n hx hb dX7_goesOn_126 rfl (lv_at hl 1 rfl) ?_
            refine lv_bipush (v := 53) hx hb dX7_goesOn_127 (by decide) ?_
            refine lv_icmp_gt (tgt := 136) hx hb dX7_goesOn_129 (by decide) (fun c13 => ?_) (fun c13 => ?_)
            · have hM := (o_if hM).1 c13
              refine lv_iconst (v := 0) hx hb dX7_goesOn_136 (by decide) ?_
              have hM := (Option.some.inj hM)
              subst hM
              exact rt_z hx hb hr hlocks hP hD hS (show narrow .boolean (.int 0) = .int 0 from rfl) dX7_goesOn_137
            · have hM := (o_if hM).2 c13
              refine lv_iconst (v := 1) hx hb dX7_goesOn_132 (by decide) ?_
              refine lv_goto (tgt := 137) hx hb dX7_goesOn_133 (by decide) ?_
              have hM := (Option.some.inj hM)
              subst hM
              exact rt_z hx hb hr hlocks hP hD hS (show narrow .boolean (.int 1) = .int 1 from rfl) dX7_goesOn_137
        have hM := (o_if hM).2 c11
        by_cases c14 : y4 = 3
        · have hM := (o_if hM).1 c14
          refine lv_tableIn (off := 86) (tgt := 138) hx hb dX7_goesOn_52 (by rw [c14]; decide) (by rw [c14]; decide) (by rw [c14]; rfl) (by decide) ?_
          refine lv_iload_n hx hb dX7_goesOn_138 rfl (lv_at hl 1 rfl) ?_
          refine lv_bipush (v := 48) hx hb dX7_goesOn_139 (by decide) ?_
          refine lv_icmp_lt (tgt := 154) hx hb dX7_goesOn_141 (by decide) (fun c15 => ?_) (fun c15 => ?_)
          · have hM := (o_if hM).1 c15
            refine lv_iconst (v := 0) hx hb dX7_goesOn_154 (by decide) ?_
            have hM := (Option.some.inj hM)
            subst hM
            exact rt_z hx hb hr hlocks hP hD hS (show narrow .boolean (.int 0) = .int 0 from rfl) dX7_goesOn_155
          · have hM := (o_if hM).2 c15
            refine lv_iload_n hx hb dX7_goesOn_144 rfl (lv_at hl 1 rfl) ?_
            refine lv_bipush (v := 57) hx hb dX7_goesOn_145 (by decide) ?_
            refine lv_icmp_gt (tgt := 154) hx hb dX7_goesOn_147 (by decide) (fun c16 => ?_) (fun c16 => ?_)
            · have hM := (o_if hM).1 c16
              refine lv_iconst (v := 0) hx hb dX7_goesOn_154 (by decide) ?_
              have hM := (Option.some.inj hM)
              subst hM
              exact rt_z hx hb hr hlocks hP hD hS (show narrow .boolean (.int 0) = .int 0 from rfl) dX7_goesOn_155
            · have hM := (o_if hM).2 c16
              refine lv_iconst (v := 1) hx hb dX7_goesOn_150 (by decide) ?_
              refine lv_goto (tgt := 155) hx hb dX7_goesOn_151 (by decide) ?_
              have hM := (Option.some.inj hM)
              subst hM
              exact rt_z hx hb hr hlocks hP hD hS (show narrow .boolean (.int 1) = .int 1 from rfl) dX7_goesOn_155
        have hM := (o_if hM).2 c14
        refine lv_tableOut (tgt := 156) hx hb dX7_goesOn_52 (by have q0 := lv_neT c5 (a := 0) rfl; have q1 := lv_neT c7 (a := 1) rfl; have q2 := lv_neT c11 (a := 2) rfl; have q3 := lv_neT c14 (a := 3) rfl; omega) (by decide) ?_
        refine lv_iload_n hx hb dX7_goesOn_156 rfl (lv_at hl 1 rfl) ?_
        refine lv_bipush (v := 49) hx hb dX7_goesOn_157 (by decide) ?_
        refine lv_icmp_lt (tgt := 172) hx hb dX7_goesOn_159 (by decide) (fun c17 => ?_) (fun c17 => ?_)
        · have hM := (o_if hM).1 c17
          refine lv_iconst (v := 0) hx hb dX7_goesOn_172 (by decide) ?_
          have hM := (Option.some.inj hM)
          subst hM
          exact rt_z hx hb hr hlocks hP hD hS (show narrow .boolean (.int 0) = .int 0 from rfl) dX7_goesOn_173
        · have hM := (o_if hM).2 c17
          refine lv_iload_n hx hb dX7_goesOn_162 rfl (lv_at hl 1 rfl) ?_
          refine lv_bipush (v := 57) hx hb dX7_goesOn_163 (by decide) ?_
          refine lv_icmp_gt (tgt := 172) hx hb dX7_goesOn_165 (by decide) (fun c18 => ?_) (fun c18 => ?_)
          · have hM := (o_if hM).1 c18
            refine lv_iconst (v := 0) hx hb dX7_goesOn_172 (by decide) ?_
            have hM := (Option.some.inj hM)
            subst hM
            exact rt_z hx hb hr hlocks hP hD hS (show narrow .boolean (.int 0) = .int 0 from rfl) dX7_goesOn_173
          · have hM := (o_if hM).2 c18
            refine lv_iconst (v := 1) hx hb dX7_goesOn_168 (by decide) ?_
            refine lv_goto (tgt := 173) hx hb dX7_goesOn_169 (by decide) ?_
            have hM := (Option.some.inj hM)
            subst hM
            exact rt_z hx hb hr hlocks hP hD hS (show narrow .boolean (.int 1) = .int 1 from rfl) dX7_goesOn_173
      · have hM := (o_if hM).2 c3
        refine lv_iconst (v := 0) hx hb dX7_goesOn_45 (by decide) ?_
        have hM := (Option.some.inj hM)
        subst hM
        exact rt_z hx hb hr hlocks hP hD hS (show narrow .boolean (.int 0) = .int 0 from rfl) dX7_goesOn_46
    · have hM := (o_if hM).1 c2
      refine lv_iload_n hx hb dX7_goesOn_21 rfl (lv_at hl 1 rfl) ?_
      refine lv_bipush (v := 48) hx hb dX7_goesOn_22 (by decide) ?_
      refine lv_icmp_lt (tgt := 37) hx hb dX7_goesOn_24 (by decide) (fun c19 => ?_) (fun c19 => ?_)
      · have hM := (o_if hM).1 c19
        refine lv_iconst (v := 0) hx hb dX7_goesOn_37 (by decide) ?_
        have hM := (Option.some.inj hM)
        subst hM
        exact rt_z hx hb hr hlocks hP hD hS (show narrow .boolean (.int 0) = .int 0 from rfl) dX7_goesOn_38
      · have hM := (o_if hM).2 c19
        refine lv_iload_n hx hb dX7_goesOn_27 rfl (lv_at hl 1 rfl) ?_
        refine lv_bipush (v := 50) hx hb dX7_goesOn_28 (by decide) ?_
        refine lv_icmp_gt (tgt := 37) hx hb dX7_goesOn_30 (by decide) (fun c20 => ?_) (fun c20 => ?_)
        · have hM := (o_if hM).1 c20
          refine lv_iconst (v := 0) hx hb dX7_goesOn_37 (by decide) ?_
          have hM := (Option.some.inj hM)
          subst hM
          exact rt_z hx hb hr hlocks hP hD hS (show narrow .boolean (.int 0) = .int 0 from rfl) dX7_goesOn_38
        · have hM := (o_if hM).2 c20
          refine lv_iconst (v := 1) hx hb dX7_goesOn_33 (by decide) ?_
          refine lv_goto (tgt := 38) hx hb dX7_goesOn_34 (by decide) ?_
          have hM := (Option.some.inj hM)
          subst hM
          exact rt_z hx hb hr hlocks hP hD hS (show narrow .boolean (.int 1) = .int 1 from rfl) dX7_goesOn_38
  · have hM := (o_if hM).1 c1
    refine lv_iload_n hx hb dX7_goesOn_4 rfl (lv_at hl 1 rfl) ?_
    refine lv_bipush (v := 100) hx hb dX7_goesOn_5 (by decide) ?_
    refine lv_icmp_ne (tgt := 14) hx hb dX7_goesOn_7 (by decide) (fun c21 => ?_) (fun c21 => ?_)
    · have hM := (o_if hM).2 c21
      refine lv_iconst (v := 0) hx hb dX7_goesOn_14 (by decide) ?_
      have hM := (Option.some.inj hM)
      subst hM
      exact rt_z hx hb hr hlocks hP hD hS (show narrow .boolean (.int 0) = .int 0 from rfl) dX7_goesOn_15
    · have hM := (o_if hM).1 c21
      refine lv_iconst (v := 1) hx hb dX7_goesOn_10 (by decide) ?_
      refine lv_goto (tgt := 15) hx hb dX7_goesOn_11 (by decide) ?_
      have hM := (Option.some.inj hM)
      subst hM
      exact rt_z hx hb hr hlocks hP hD hS (show narrow .boolean (.int 1) = .int 1 from rfl) dX7_goesOn_15
/-! ===== TurnQueue$Text.firstFault ===== -/
abbrev w_Te_firstFault (cI cJ cS : ClassId) (q_from : Nat) (q_from_cells : Nat) (from_lane : Int32) (from_size : Int32) (from_cells : Nat → Int32) : va_W := [(q_from, .inr (6, [.ref q_from_cells, .int from_lane, .int from_size])), (q_from_cells, ar cI 60 from_cells)]
abbrev rm_Te_firstFault : Room := { frames := 1, cells := 0, slots := 0, locals := 21 }
noncomputable def Te_firstFault_j29 (p_i : Int32) (p_n : Int32) (from_size : Int32) (from_cells : Nat → Int32) : Option (Int32) :=
  if p_n ≤ 2 then
    some p_n
  else
    if ((p_n - 2) - (p_n - 2) / 5 * 5) = 0 then
      some (-9)
    else
      some p_n
noncomputable def Te_firstFault_b2 (p_i : Int32) (p_n : Int32) (from_size : Int32) (from_cells : Nat → Int32) (x3 : Int32) : Option ((Int32) ⊕ (Int32)) :=
  if p_n ≤ x3 then
    ex (Te_firstFault_j29 p_i p_n from_size from_cells)
  else
    (Sh_at (p_i + x3) from_size from_cells).bind fun y4 =>
    (Te_goesOn x3 y4).bind fun y6 =>
    if y6 = 0 then
      some (.inr x3)
    else
      lt (x3 + 1) fun y9 =>
      some (.inl (y9))
noncomputable def Te_firstFault_s2 (p_i : Int32) (p_n : Int32) (from_size : Int32) (from_cells : Nat → Int32) : (Int32) → Option ((Int32) ⊕ (Int32)) := fun x => Te_firstFault_b2 p_i p_n from_size from_cells x
noncomputable def Te_firstFault_l2 (p_i : Int32) (p_n : Int32) (from_size : Int32) (from_cells : Nat → Int32) (x3 : Int32) : Option (Int32) := fin (Te_firstFault_s2 p_i p_n from_size from_cells) (x3)
noncomputable def Te_firstFault (p_i : Int32) (p_n : Int32) (from_size : Int32) (from_cells : Nat → Int32) : Option (Int32) :=
  Te_firstFault_l2 p_i p_n from_size from_cells 0
theorem Te_firstFault_l2_eq (p_i : Int32) (p_n : Int32) (from_size : Int32) (from_cells : Nat → Int32) (x3 : Int32) : Te_firstFault_l2 p_i p_n from_size from_cells x3 = (Te_firstFault_b2 p_i p_n from_size from_cells x3).bind (sg (fin (Te_firstFault_s2 p_i p_n from_size from_cells))) := by
  unfold Te_firstFault_l2
  exact fin_eq _ _
theorem Te_firstFault_l2_fd (p_i : Int32) (p_n : Int32) (from_size : Int32) (from_cells : Nat → Int32) (x3 : Int32) : fin (Te_firstFault_s2 p_i p_n from_size from_cells) (x3) = Te_firstFault_l2 p_i p_n from_size from_cells x3 := rfl
set_option maxRecDepth 100000 in
set_option maxHeartbeats 4000000 in
theorem c_Te_firstFault (l : Launch) (D : va_G) (cI cJ cS : ClassId) (q_from q_from_cells : Nat) (from_lane : Int32) (from_size : Int32) (from_cells : Nat → Int32) (p_i : Int32) (p_n : Int32) (o : Int32) (hM : Te_firstFault p_i p_n from_size from_cells = some o) : Ci l yX7_firstFault wsX7_firstFault rm_Te_firstFault D cI cJ cS [.ref q_from, .int p_i, .int p_n] (w_Te_firstFault cI cJ cS q_from q_from_cells from_lane from_size from_cells) (w_Te_firstFault cI cJ cS q_from q_from_cells from_lane from_size from_cells) o := by
  refine Ci.of (cc := cX7_firstFault) (maxL := 4) (ret := (some .int)) (by decide) rfl (Nat.le_of_ble_eq_true rfl) ?_
  intro p e s m args below meth c A ls hE
  obtain ⟨hx, hb, hr, hml, hown, hts, hlocks, hK, hA, hP, hD, hS, hl⟩ := hE
  have hown : s.vm.findClass RX7 = some m.cls := hown
  have hl : lv_has ls 4 [(0, .ref q_from), (1, .int p_i), (2, .int p_n)] := hl
  have J29 : Te_firstFault_j29 p_i p_n from_size from_cells = some o → ∀ (H : Heap) (locs : List Loc), va_P D vwCl (w_Te_firstFault cI cJ cS q_from q_from_cells from_lane from_size from_cells) H → va_D A (w_Te_firstFault cI cJ cS q_from q_from_cells from_lane from_size from_cells) → va_S A s.heap H locs → ∀ ls : Array Slot, lv_has ls 4 [(2, .int p_n)] → W p l e (headSpec wsX7_firstFault rm_Te_firstFault).room s m args below meth c H locs 0 0 (MQ below (CQi D (w_Te_firstFault cI cJ cS q_from q_from_cells from_lane from_size from_cells) A o) args s 0 0 A) (F0 m 29 ls []) := by
    intro hM H locs hP hD hS ls hl
    unfold Te_firstFault_j29 at hM
    refine lv_iload_n hx hb dX7_firstFault_29 rfl (lv_at hl 0 rfl) ?_
    refine lv_iconst (v := 2) hx hb dX7_firstFault_30 (by decide) ?_
    refine lv_icmp_le (tgt := 47) hx hb dX7_firstFault_31 (by decide) (fun c2 => ?_) (fun c2 => ?_)
    · have hM := (o_if hM).1 c2
      refine lv_iload_n hx hb dX7_firstFault_47 rfl (lv_at hl 0 rfl) ?_
      have hM := (Option.some.inj hM)
      subst hM
      exact rt_i hx hb hr hlocks hP hD hS dX7_firstFault_48
    · have hM := (o_if hM).2 c2
      refine lv_iload_n hx hb dX7_firstFault_34 rfl (lv_at hl 0 rfl) ?_
      refine lv_iconst (v := 2) hx hb dX7_firstFault_35 (by decide) ?_
      refine lv_isub hx hb dX7_firstFault_36 ?_
      refine lv_iconst (v := 5) hx hb dX7_firstFault_37 (by decide) ?_
      refine lv_irem hx hb dX7_firstFault_38 (by decide) ?_
      refine lv_if_ne (tgt := 47) hx hb dX7_firstFault_39 (by decide) (fun c3 => ?_) (fun c3 => ?_)
      · have hM := (o_if hM).2 c3
        refine lv_iload_n hx hb dX7_firstFault_47 rfl (lv_at hl 0 rfl) ?_
        have hM := (Option.some.inj hM)
        subst hM
        exact rt_i hx hb hr hlocks hP hD hS dX7_firstFault_48
      · have hM := (o_if hM).1 c3
        refine lv_bipush (v := (-9)) hx hb dX7_firstFault_42 (by decide) ?_
        refine lv_goto (tgt := 48) hx hb dX7_firstFault_44 (by decide) ?_
        have hM := (Option.some.inj hM)
        subst hM
        exact rt_i hx hb hr hlocks hP hD hS dX7_firstFault_48
  have L2 : ∀ n : Nat, (∀ (x3 : Int32), itr (Te_firstFault_s2 p_i p_n from_size from_cells) n (x3) = some o → ∀ (H : Heap) (locs : List Loc), va_P D vwCl (w_Te_firstFault cI cJ cS q_from q_from_cells from_lane from_size from_cells) H → va_D A (w_Te_firstFault cI cJ cS q_from q_from_cells from_lane from_size from_cells) → va_S A s.heap H locs → ∀ ls : Array Slot, lv_has ls 4 [(0, .ref q_from), (1, .int p_i), (2, .int p_n), (3, .int x3)] → W p l e (headSpec wsX7_firstFault rm_Te_firstFault).room s m args below meth c H locs 0 0 (MQ below (CQi D (w_Te_firstFault cI cJ cS q_from q_from_cells from_lane from_size from_cells) A o) args s 0 0 A) (F0 m 2 ls [])) := by
    intro n
    induction n with
    | zero => exact fun _ hM => (itr_0 hM).elim
    | succ n ih =>
      intro x3 hM H locs hP hD hS ls hl
      have hM : (Te_firstFault_b2 p_i p_n from_size from_cells x3).bind (sg (itr (Te_firstFault_s2 p_i p_n from_size from_cells) n)) = some o := hM
      unfold Te_firstFault_b2 at hM
      refine lv_iload_n hx hb dX7_firstFault_2 rfl (lv_at hl 3 rfl) ?_
      refine lv_iload_n hx hb dX7_firstFault_3 rfl (lv_at hl 2 rfl) ?_
      refine lv_icmp_ge (tgt := 29) hx hb dX7_firstFault_4 (by decide) (fun c1 => ?_) (fun c1 => ?_)
      · have hM := (s_if hM).1 c1
        exact J29 (s_ex hM) _ _ hP hD hS _ (lv_sub hl [2] rfl)
      · have hM := (s_if hM).2 c1
        refine lv_iload_n hx hb dX7_firstFault_7 rfl (lv_at hl 3 rfl) ?_
        refine lv_aload_n hx hb dX7_firstFault_8 rfl (lv_at hl 0 rfl) ?_
        refine lv_iload_n hx hb dX7_firstFault_9 rfl (lv_at hl 1 rfl) ?_
        refine lv_iload_n hx hb dX7_firstFault_10 rfl (lv_at hl 3 rfl) ?_
        refine lv_iadd hx hb dX7_firstFault_11 ?_
        obtain ⟨y4, h5, hM⟩ := s_bd hM
        refine af_i (ws2 := (w_Te_firstFault cI cJ cS q_from q_from_cells from_lane from_size from_cells)) (va_runV (As := [.int (p_i + x3)]) (rest := [.int x3]) ⟨hx, hb, hml, hown, hts⟩ (c_Sh_at l D cI cJ cS q_from q_from_cells from_lane from_size from_cells (p_i + x3) y4 h5 _) (cwV 1 hts gX7_firstFault_X6_at rfl rfl rfl (by decide +kernel) ⟨(Nat.le_of_ble_eq_true rfl), (Nat.le_of_ble_eq_true rfl)⟩) (pre_V hK hP hD [0, 1] rfl rfl rfl rfl) rfl rfl hl.1 rfl (lv_room (Nat.le_of_ble_eq_true rfl)) dX7_firstFault_12 ⟨Nat.zero_le _, Nat.zero_le _⟩) hP hD hS hA [0, 1] [] [0, 1] rfl rfl rfl (by decide) rfl rfl (fun H locs hP hD hS => ?_)
        obtain ⟨y6, h7, hM⟩ := s_bd hM
        refine af_i (ws2 := (w_Te_firstFault cI cJ cS q_from q_from_cells from_lane from_size from_cells)) (va_runS (As := [.int x3, .int y4]) (rest := []) ⟨hx, hb, hml, hown, hts⟩ (c_Te_goesOn l D cI cJ cS x3 y4 y6 h7 _) (va_cwS 2 hts gX7_firstFault_X7_goesOn rfl rfl rfl (by decide +kernel) ⟨(Nat.le_of_ble_eq_true rfl), (Nat.le_of_ble_eq_true rfl)⟩) (pre_S hK hP hD [] rfl rfl) rfl rfl hl.1 rfl (lv_room (Nat.le_of_ble_eq_true rfl)) dX7_firstFault_15 ⟨Nat.zero_le _, Nat.zero_le _⟩) hP hD hS hA [] [0, 1] [0, 1] rfl rfl rfl (by decide) rfl rfl (fun H locs hP hD hS => ?_)
        refine lv_if_ne (tgt := 23) hx hb dX7_firstFault_18 (by decide) (fun c8 => ?_) (fun c8 => ?_)
        · have hM := (s_if hM).2 c8
          obtain ⟨y9, ey9⟩ : ∃ y : Int32, y = x3 + 1 := ⟨_, rfl⟩
          have hM := s_lt hM y9 ey9
          refine lv_iinc (v := y9) (lv' := [(3, .int y9), (0, .ref q_from), (1, .int p_i), (2, .int p_n)]) hx hb dX7_firstFault_23 hl (k := 3) rfl (by rw [ey9]; rfl) (Nat.le_of_ble_eq_true rfl) rfl (fun ls hl => ?_)
          refine lv_goto (tgt := 2) hx hb dX7_firstFault_26 (by decide) ?_
          exact ih y9 (s_jp hM) _ _ hP hD hS _ (lv_sub hl [1, 2, 3, 0] rfl)
        · have hM := (s_if hM).1 c8
          refine lv_iload_n hx hb dX7_firstFault_21 rfl (lv_at hl 3 rfl) ?_
          have hM := (Option.some.inj (s_rt hM))
          subst hM
          exact rt_i hx hb hr hlocks hP hD hS dX7_firstFault_22
  have J2 : ∀ (x3 : Int32), Te_firstFault_l2 p_i p_n from_size from_cells x3 = some o → ∀ (H : Heap) (locs : List Loc), va_P D vwCl (w_Te_firstFault cI cJ cS q_from q_from_cells from_lane from_size from_cells) H → va_D A (w_Te_firstFault cI cJ cS q_from q_from_cells from_lane from_size from_cells) → va_S A s.heap H locs → ∀ ls : Array Slot, lv_has ls 4 [(0, .ref q_from), (1, .int p_i), (2, .int p_n), (3, .int x3)] → W p l e (headSpec wsX7_firstFault rm_Te_firstFault).room s m args below meth c H locs 0 0 (MQ below (CQi D (w_Te_firstFault cI cJ cS q_from q_from_cells from_lane from_size from_cells) A o) args s 0 0 A) (F0 m 2 ls []) := by
    intro x3 hM
    unfold Te_firstFault_l2 at hM
    obtain ⟨n0, hM⟩ := fin_some hM
    exact (L2 n0) x3 hM
  unfold Te_firstFault at hM
  refine lv_iconst (v := 0) hx hb dX7_firstFault_0 (by decide) ?_
  refine lv_istore_n (lv' := [(3, .int 0), (0, .ref q_from), (1, .int p_i), (2, .int p_n)]) hx hb dX7_firstFault_1 rfl hl (Nat.le_of_ble_eq_true rfl) rfl (fun ls hl => ?_)
  exact J2 0 hM _ _ hP hD hS _ (lv_sub hl [1, 2, 3, 0] rfl)
/-! ===== TurnQueue$Text.kindOf ===== -/
abbrev w_Te_kindOf (cI cJ cS : ClassId) : va_W := []
abbrev rm_Te_kindOf : Room := { frames := 0, cells := 0, slots := 0, locals := 0 }
noncomputable def Te_kindOf (p_letter : Int32) : Option (Int32) :=
  if p_letter = 99 then
    some 2
  else
    if p_letter = 109 then
      some 1
    else
      some 0
set_option maxRecDepth 100000 in
set_option maxHeartbeats 4000000 in
theorem c_Te_kindOf (l : Launch) (D : va_G) (cI cJ cS : ClassId) (p_letter : Int32) (o : Int32) (hM : Te_kindOf p_letter = some o) : Ci l yX7_kindOf wsX7_kindOf rm_Te_kindOf D cI cJ cS [.int p_letter] (w_Te_kindOf cI cJ cS) (w_Te_kindOf cI cJ cS) o := by
  refine Ci.of (cc := cX7_kindOf) (maxL := 1) (ret := (some .int)) (by decide) rfl (Nat.le_of_ble_eq_true rfl) ?_
  intro p e s m args below meth c A ls hE
  obtain ⟨hx, hb, hr, hml, hown, hts, hlocks, hK, hA, hP, hD, hS, hl⟩ := hE
  have hown : s.vm.findClass RX7 = some m.cls := hown
  have hl : lv_has ls 1 [(0, .int p_letter)] := hl
  unfold Te_kindOf at hM
  refine lv_iload_n hx hb dX7_kindOf_0 rfl (lv_at hl 0 rfl) ?_
  refine lv_bipush (v := 99) hx hb dX7_kindOf_1 (by decide) ?_
  refine lv_icmp_ne (tgt := 8) hx hb dX7_kindOf_3 (by decide) (fun c1 => ?_) (fun c1 => ?_)
  · have hM := (o_if hM).2 c1
    refine lv_iload_n hx hb dX7_kindOf_8 rfl (lv_at hl 0 rfl) ?_
    refine lv_bipush (v := 109) hx hb dX7_kindOf_9 (by decide) ?_
    refine lv_icmp_ne (tgt := 18) hx hb dX7_kindOf_11 (by decide) (fun c2 => ?_) (fun c2 => ?_)
    · have hM := (o_if hM).2 c2
      refine lv_iconst (v := 0) hx hb dX7_kindOf_18 (by decide) ?_
      have hM := (Option.some.inj hM)
      subst hM
      exact rt_i hx hb hr hlocks hP hD hS dX7_kindOf_19
    · have hM := (o_if hM).1 c2
      refine lv_iconst (v := 1) hx hb dX7_kindOf_14 (by decide) ?_
      refine lv_goto (tgt := 19) hx hb dX7_kindOf_15 (by decide) ?_
      have hM := (Option.some.inj hM)
      subst hM
      exact rt_i hx hb hr hlocks hP hD hS dX7_kindOf_19
  · have hM := (o_if hM).1 c1
    refine lv_iconst (v := 2) hx hb dX7_kindOf_6 (by decide) ?_
    have hM := (Option.some.inj hM)
    subst hM
    exact rt_i hx hb hr hlocks hP hD hS dX7_kindOf_7
/-! ===== TurnQueue$Text.readInto ===== -/
abbrev w_Te_readInto (cI cJ cS : ClassId) (q_plan : Nat) (q_from : Nat) (q_plan_kinds : Nat) (q_plan_comes : Nat) (q_plan_wants : Nat) (q_plan_outs : Nat) (q_from_cells : Nat) (plan_law : Int32) (plan_count : Int32) (plan_bells : Int64) (plan_kinds : Nat → Int32) (plan_comes : Nat → Int32) (plan_wants : Nat → Int32) (plan_outs : Nat → Int32) (from_lane : Int32) (from_size : Int32) (from_cells : Nat → Int32) : va_W := [(q_plan, .inr (3, [.int plan_law, .int plan_count, .long plan_bells, .ref q_plan_kinds, .ref q_plan_comes, .ref q_plan_wants, .ref q_plan_outs])), (q_plan_kinds, ar cI 7 plan_kinds), (q_plan_comes, ar cI 7 plan_comes), (q_plan_wants, ar cI 7 plan_wants), (q_plan_outs, ar cI 7 plan_outs), (q_from, .inr (6, [.ref q_from_cells, .int from_lane, .int from_size])), (q_from_cells, ar cI 60 from_cells)]
abbrev rm_Te_readInto : Room := { frames := 1, cells := 0, slots := 0, locals := 21 }
noncomputable def Te_readInto_b36 (p_i : Int32) (p_n : Int32) (from_size : Int32) (from_cells : Nat → Int32) (x4 : Int32) (plan_law : Int32) (plan_count : Int32) (plan_bells : Int64) (plan_kinds : Nat → Int32) (plan_comes : Nat → Int32) (plan_wants : Nat → Int32) (plan_outs : Nat → Int32) : Option ((Int32 × Int32 × Int32 × Int64 × (Nat → Int32) × (Nat → Int32) × (Nat → Int32) × (Nat → Int32)) ⊕ (Int32 × Int32 × Int64 × (Nat → Int32) × (Nat → Int32) × (Nat → Int32) × (Nat → Int32))) :=
  if plan_count ≤ x4 then
    some (.inr (plan_law, plan_count, plan_bells, plan_kinds, plan_comes, plan_wants, plan_outs))
  else
    lt ((p_i + 2) + (5 * x4)) fun y6 =>
    (Sh_at (y6 + 1) from_size from_cells).bind fun y7 =>
    (Te_kindOf y7).bind fun y9 =>
    if ck x4 7 = true then
      (Sh_at (y6 + 2) from_size from_cells).bind fun y12 =>
      (Sh_at (y6 + 3) from_size from_cells).bind fun y14 =>
      lt (((10 * (y12 - 48)) + y14) - 48) fun y16 =>
      if ck x4 7 = true then
        (Sh_at (y6 + 4) from_size from_cells).bind fun y18 =>
        lt (y18 - 48) fun y20 =>
        if ck x4 7 = true then
          if ck x4 7 = true then
            lt (x4 + 1) fun y23 =>
            some (.inl (y23, plan_law, plan_count, plan_bells, upd plan_kinds x4.toNatClampNeg y9, upd plan_comes x4.toNatClampNeg y16, upd plan_wants x4.toNatClampNeg y20, upd plan_outs x4.toNatClampNeg (-9)))
          else none
        else none
      else none
    else none
noncomputable def Te_readInto_s36 (p_i : Int32) (p_n : Int32) (from_size : Int32) (from_cells : Nat → Int32) : (Int32 × Int32 × Int32 × Int64 × (Nat → Int32) × (Nat → Int32) × (Nat → Int32) × (Nat → Int32)) → Option ((Int32 × Int32 × Int32 × Int64 × (Nat → Int32) × (Nat → Int32) × (Nat → Int32) × (Nat → Int32)) ⊕ (Int32 × Int32 × Int64 × (Nat → Int32) × (Nat → Int32) × (Nat → Int32) × (Nat → Int32))) := fun x => Te_readInto_b36 p_i p_n from_size from_cells x.1 x.2.1 x.2.2.1 x.2.2.2.1 x.2.2.2.2.1 x.2.2.2.2.2.1 x.2.2.2.2.2.2.1 x.2.2.2.2.2.2.2
noncomputable def Te_readInto_l36 (p_i : Int32) (p_n : Int32) (from_size : Int32) (from_cells : Nat → Int32) (x4 : Int32) (plan_law : Int32) (plan_count : Int32) (plan_bells : Int64) (plan_kinds : Nat → Int32) (plan_comes : Nat → Int32) (plan_wants : Nat → Int32) (plan_outs : Nat → Int32) : Option (Int32 × Int32 × Int64 × (Nat → Int32) × (Nat → Int32) × (Nat → Int32) × (Nat → Int32)) := fin (Te_readInto_s36 p_i p_n from_size from_cells) (x4, plan_law, plan_count, plan_bells, plan_kinds, plan_comes, plan_wants, plan_outs)
noncomputable def Te_readInto (p_i : Int32) (p_n : Int32) (from_size : Int32) (from_cells : Nat → Int32) (plan_law : Int32) (plan_count : Int32) (plan_bells : Int64) (plan_kinds : Nat → Int32) (plan_comes : Nat → Int32) (plan_wants : Nat → Int32) (plan_outs : Nat → Int32) : Option (Int32 × Int32 × Int64 × (Nat → Int32) × (Nat → Int32) × (Nat → Int32) × (Nat → Int32)) :=
  (Sh_at (p_i + 1) from_size from_cells).bind fun y1 =>
  lt (y1 - 48) fun y3 =>
  lt (if 7 < ((p_n - 2) / 5) then 7 else ((p_n - 2) / 5)) fun y4 =>
  Te_readInto_l36 p_i p_n from_size from_cells 0 y3 y4 0 plan_kinds plan_comes plan_wants plan_outs
theorem Te_readInto_l36_eq (p_i : Int32) (p_n : Int32) (from_size : Int32) (from_cells : Nat → Int32) (x4 : Int32) (plan_law : Int32) (plan_count : Int32) (plan_bells : Int64) (plan_kinds : Nat → Int32) (plan_comes : Nat → Int32) (plan_wants : Nat → Int32) (plan_outs : Nat → Int32) : Te_readInto_l36 p_i p_n from_size from_cells x4 plan_law plan_count plan_bells plan_kinds plan_comes plan_wants plan_outs = (Te_readInto_b36 p_i p_n from_size from_cells x4 plan_law plan_count plan_bells plan_kinds plan_comes plan_wants plan_outs).bind (sg (fin (Te_readInto_s36 p_i p_n from_size from_cells))) := by
  unfold Te_readInto_l36
  exact fin_eq _ _
theorem Te_readInto_l36_fd (p_i : Int32) (p_n : Int32) (from_size : Int32) (from_cells : Nat → Int32) (x4 : Int32) (plan_law : Int32) (plan_count : Int32) (plan_bells : Int64) (plan_kinds : Nat → Int32) (plan_comes : Nat → Int32) (plan_wants : Nat → Int32) (plan_outs : Nat → Int32) : fin (Te_readInto_s36 p_i p_n from_size from_cells) (x4, plan_law, plan_count, plan_bells, plan_kinds, plan_comes, plan_wants, plan_outs) = Te_readInto_l36 p_i p_n from_size from_cells x4 plan_law plan_count plan_bells plan_kinds plan_comes plan_wants plan_outs := rfl
set_option maxRecDepth 100000 in
set_option maxHeartbeats 4000000 in
theorem c_Te_readInto (l : Launch) (D : va_G) (cI cJ cS : ClassId) (q_plan q_from q_plan_kinds q_plan_comes q_plan_wants q_plan_outs q_from_cells : Nat) (plan_law : Int32) (plan_count : Int32) (plan_bells : Int64) (plan_kinds : Nat → Int32) (plan_comes : Nat → Int32) (plan_wants : Nat → Int32) (plan_outs : Nat → Int32) (from_lane : Int32) (from_size : Int32) (from_cells : Nat → Int32) (p_i : Int32) (p_n : Int32) (o : Int32 × Int32 × Int64 × (Nat → Int32) × (Nat → Int32) × (Nat → Int32) × (Nat → Int32)) (hM : Te_readInto p_i p_n from_size from_cells plan_law plan_count plan_bells plan_kinds plan_comes plan_wants plan_outs = some o) : Cv l yX7_readInto wsX7_readInto rm_Te_readInto D cI cJ cS [.ref q_plan, .ref q_from, .int p_i, .int p_n] (w_Te_readInto cI cJ cS q_plan q_from q_plan_kinds q_plan_comes q_plan_wants q_plan_outs q_from_cells plan_law plan_count plan_bells plan_kinds plan_comes plan_wants plan_outs from_lane from_size from_cells) (w_Te_readInto cI cJ cS q_plan q_from q_plan_kinds q_plan_comes q_plan_wants q_plan_outs q_from_cells o.1 o.2.1 o.2.2.1 o.2.2.2.1 o.2.2.2.2.1 o.2.2.2.2.2.1 o.2.2.2.2.2.2 from_lane from_size from_cells) := by
  refine Cv.of (cc := cX7_readInto) (maxL := 6) (ret := none) (by decide) rfl (Nat.le_of_ble_eq_true rfl) ?_
  intro p e s m args below meth c A ls hE
  obtain ⟨hx, hb, hr, hml, hown, hts, hlocks, hK, hA, hP, hD, hS, hl⟩ := hE
  have hown : s.vm.findClass RX7 = some m.cls := hown
  have hl : lv_has ls 6 [(0, .ref q_plan), (1, .ref q_from), (2, .int p_i), (3, .int p_n)] := hl
  have iX3 : ∀ w ∈ u_ws RX3 TX3 7, w ∈ wsX7_readInto := by decide +kernel
  have k0 := hts (.fieldLink RX7 21 "TurnQueue$Plan" "law" "I") (by decide +kernel)
  have k1 := hts (.methodLink RX7 27 Lib.Math.min.name) (by decide +kernel)
  have k2 := hts (.static Lib.Math.min.name) (by decide +kernel)
  have k3 := hts (.initialized "java/lang/Math") (by decide +kernel)
  have k4 := hts (.code Lib.Math.min.name Lib.Math.min.code 2 (some .int)) (by decide +kernel)
  have k5 := hts (.fieldLink RX7 33 "TurnQueue$Plan" "count" "I") (by decide +kernel)
  have k6 := hts (.fieldLink RX7 36 "TurnQueue$Plan" "bells" "J") (by decide +kernel)
  have k7 := hts (.fieldLink RX7 40 "TurnQueue$Plan" "kinds" "[I") (by decide +kernel)
  have k8 := hts (.fieldLink RX7 47 "TurnQueue$Plan" "comes" "[I") (by decide +kernel)
  have k9 := hts (.fieldLink RX7 50 "TurnQueue$Plan" "wants" "[I") (by decide +kernel)
  have k10 := hts (.fieldLink RX7 53 "TurnQueue$Plan" "outs" "[I") (by decide +kernel)
  have L36 : ∀ n : Nat, (∀ (x4 : Int32) (plan_law : Int32) (plan_count : Int32) (plan_bells : Int64) (plan_kinds : Nat → Int32) (plan_comes : Nat → Int32) (plan_wants : Nat → Int32) (plan_outs : Nat → Int32), itr (Te_readInto_s36 p_i p_n from_size from_cells) n (x4, plan_law, plan_count, plan_bells, plan_kinds, plan_comes, plan_wants, plan_outs) = some o → ∀ (H : Heap) (locs : List Loc), va_P D vwCl (w_Te_readInto cI cJ cS q_plan q_from q_plan_kinds q_plan_comes q_plan_wants q_plan_outs q_from_cells plan_law plan_count plan_bells plan_kinds plan_comes plan_wants plan_outs from_lane from_size from_cells) H → va_D A (w_Te_readInto cI cJ cS q_plan q_from q_plan_kinds q_plan_comes q_plan_wants q_plan_outs q_from_cells plan_law plan_count plan_bells plan_kinds plan_comes plan_wants plan_outs from_lane from_size from_cells) → va_S A s.heap H locs → ∀ ls : Array Slot, lv_has ls 6 [(0, .ref q_plan), (1, .ref q_from), (2, .int p_i), (4, .int x4)] → W p l e (headSpec wsX7_readInto rm_Te_readInto).room s m args below meth c H locs 0 0 (MQ below (CQv D (w_Te_readInto cI cJ cS q_plan q_from q_plan_kinds q_plan_comes q_plan_wants q_plan_outs q_from_cells o.1 o.2.1 o.2.2.1 o.2.2.2.1 o.2.2.2.2.1 o.2.2.2.2.2.1 o.2.2.2.2.2.2 from_lane from_size from_cells) A) args s 0 0 A) (F0 m 36 ls [])) := by
    intro n
    induction n with
    | zero => exact fun _ _ _ _ _ _ _ _ hM => (itr_0 hM).elim
    | succ n ih =>
      intro x4 plan_law plan_count plan_bells plan_kinds plan_comes plan_wants plan_outs hM H locs hP hD hS ls hl
      have hM : (Te_readInto_b36 p_i p_n from_size from_cells x4 plan_law plan_count plan_bells plan_kinds plan_comes plan_wants plan_outs).bind (sg (itr (Te_readInto_s36 p_i p_n from_size from_cells) n)) = some o := hM
      unfold Te_readInto_b36 at hM
      refine lv_iload hx hb dX7_readInto_36 (lv_at hl 3 rfl) ?_
      refine lv_aload_n hx hb dX7_readInto_38 rfl (lv_at hl 0 rfl) ?_
      refine va_get (ci := 3) (v := .int plan_count) (C := RX3) (T := TX3) (N := 7) hx hb hts iX3 hown hK.1 hP 0 rfl rfl 1 (Nat.le_of_ble_eq_true rfl) k5 (fun _ h9 => h9) rfl dX7_readInto_39 ?_
      refine lv_icmp_ge (tgt := 139) hx hb dX7_readInto_42 (by decide) (fun c5 => ?_) (fun c5 => ?_)
      · have hM := (s_if hM).1 c5
        have hM := (Option.some.inj (s_rt hM))
        subst hM
        exact rt_v hx hb hr hlocks hP hD hS dX7_readInto_139
      · have hM := (s_if hM).2 c5
        refine lv_iload_n hx hb dX7_readInto_45 rfl (lv_at hl 2 rfl) ?_
        refine lv_iconst (v := 2) hx hb dX7_readInto_46 (by decide) ?_
        refine lv_iadd hx hb dX7_readInto_47 ?_
        refine lv_iconst (v := 5) hx hb dX7_readInto_48 (by decide) ?_
        refine lv_iload hx hb dX7_readInto_49 (lv_at hl 3 rfl) ?_
        refine lv_imul hx hb dX7_readInto_51 ?_
        refine lv_iadd hx hb dX7_readInto_52 ?_
        refine lv_topi (fun y6 ey6 => ?_)
        have hM := s_lt hM y6 ey6
        refine lv_istore (lv' := [(5, .int y6), (0, .ref q_plan), (1, .ref q_from), (2, .int p_i), (4, .int x4)]) hx hb dX7_readInto_53 hl (Nat.le_of_ble_eq_true rfl) rfl (fun ls hl => ?_)
        refine lv_aload_n hx hb dX7_readInto_55 rfl (lv_at hl 1 rfl) ?_
        refine va_get (ci := 3) (v := .ref q_plan_kinds) (C := RX3) (T := TX3) (N := 7) hx hb hts iX3 hown hK.1 hP 0 rfl rfl 3 (Nat.le_of_ble_eq_true rfl) k7 (fun _ h9 => h9) rfl dX7_readInto_56 ?_
        refine lv_iload hx hb dX7_readInto_59 (lv_at hl 4 rfl) ?_
        refine lv_aload_n hx hb dX7_readInto_61 rfl (lv_at hl 2 rfl) ?_
        refine lv_iload hx hb dX7_readInto_62 (lv_at hl 0 rfl) ?_
        refine lv_iconst (v := 1) hx hb dX7_readInto_64 (by decide) ?_
        refine lv_iadd hx hb dX7_readInto_65 ?_
        obtain ⟨y7, h8, hM⟩ := s_bd hM
        refine af_i (ws2 := (w_Te_readInto cI cJ cS q_plan q_from q_plan_kinds q_plan_comes q_plan_wants q_plan_outs q_from_cells plan_law plan_count plan_bells plan_kinds plan_comes plan_wants plan_outs from_lane from_size from_cells)) (va_runV (As := [.int (y6 + 1)]) (rest := [.int x4, .ref q_plan_kinds]) ⟨hx, hb, hml, hown, hts⟩ (c_Sh_at l D cI cJ cS q_from q_from_cells from_lane from_size from_cells (y6 + 1) y7 h8 _) (cwV 1 hts gX7_readInto_X6_at rfl rfl rfl (by decide +kernel) ⟨(Nat.le_of_ble_eq_true rfl), (Nat.le_of_ble_eq_true rfl)⟩) (pre_V hK hP hD [5, 6] rfl rfl rfl rfl) rfl rfl hl.1 rfl (lv_room (Nat.le_of_ble_eq_true rfl)) dX7_readInto_66 ⟨Nat.zero_le _, Nat.zero_le _⟩) hP hD hS hA [5, 6] [0, 1, 2, 3, 4] [0, 1, 2, 3, 4, 5, 6] rfl rfl rfl (by decide) rfl rfl (fun H locs hP hD hS => ?_)
        obtain ⟨y9, h10, hM⟩ := s_bd hM
        refine af_i (ws2 := (w_Te_readInto cI cJ cS q_plan q_from q_plan_kinds q_plan_comes q_plan_wants q_plan_outs q_from_cells plan_law plan_count plan_bells plan_kinds plan_comes plan_wants plan_outs from_lane from_size from_cells)) (va_runS (As := [.int y7]) (rest := [.int x4, .ref q_plan_kinds]) ⟨hx, hb, hml, hown, hts⟩ (c_Te_kindOf l D cI cJ cS y7 y9 h10 _) (va_cwS 1 hts gX7_readInto_X7_kindOf rfl rfl rfl (by decide +kernel) ⟨(Nat.le_of_ble_eq_true rfl), (Nat.le_of_ble_eq_true rfl)⟩) (pre_S hK hP hD [] rfl rfl) rfl rfl hl.1 rfl (lv_room (Nat.le_of_ble_eq_true rfl)) dX7_readInto_69 ⟨Nat.zero_le _, Nat.zero_le _⟩) hP hD hS hA [] [0, 1, 2, 3, 4, 5, 6] [0, 1, 2, 3, 4, 5, 6] rfl rfl rfl (by decide) rfl rfl (fun H locs hP hD hS => ?_)
        obtain ⟨h11, hM⟩ := s_ck hM
        refine va_iast hx hb hK.1 hP hD hS 1 0 rfl rfl h11 dX7_readInto_72 (fun H locs hP hD hS => ?_)
        have hP : va_P D vwCl (w_Te_readInto cI cJ cS q_plan q_from q_plan_kinds q_plan_comes q_plan_wants q_plan_outs q_from_cells plan_law plan_count plan_bells (upd plan_kinds x4.toNatClampNeg y9) plan_comes plan_wants plan_outs from_lane from_size from_cells) H := hP
        have hD : va_D A (w_Te_readInto cI cJ cS q_plan q_from q_plan_kinds q_plan_comes q_plan_wants q_plan_outs q_from_cells plan_law plan_count plan_bells (upd plan_kinds x4.toNatClampNeg y9) plan_comes plan_wants plan_outs from_lane from_size from_cells) := hD
        refine lv_aload_n hx hb dX7_readInto_73 rfl (lv_at hl 1 rfl) ?_
        refine va_get (ci := 3) (v := .ref q_plan_comes) (C := RX3) (T := TX3) (N := 7) hx hb hts iX3 hown hK.1 hP 0 rfl rfl 4 (Nat.le_of_ble_eq_true rfl) k8 (fun _ h9 => h9) rfl dX7_readInto_74 ?_
        refine lv_iload hx hb dX7_readInto_77 (lv_at hl 4 rfl) ?_
        refine lv_bipush (v := 10) hx hb dX7_readInto_79 (by decide) ?_
        refine lv_aload_n hx hb dX7_readInto_81 rfl (lv_at hl 2 rfl) ?_
        refine lv_iload hx hb dX7_readInto_82 (lv_at hl 0 rfl) ?_
        refine lv_iconst (v := 2) hx hb dX7_readInto_84 (by decide) ?_
        refine lv_iadd hx hb dX7_readInto_85 ?_
        obtain ⟨y12, h13, hM⟩ := s_bd hM
        refine af_i (ws2 := (w_Te_readInto cI cJ cS q_plan q_from q_plan_kinds q_plan_comes q_plan_wants q_plan_outs q_from_cells plan_law plan_count plan_bells (upd plan_kinds x4.toNatClampNeg y9) plan_comes plan_wants plan_outs from_lane from_size from_cells)) (va_runV (As := [.int (y6 + 2)]) (rest := [.int 10, .int x4, .ref q_plan_comes]) ⟨hx, hb, hml, hown, hts⟩ (c_Sh_at l D cI cJ cS q_from q_from_cells from_lane from_size from_cells (y6 + 2) y12 h13 _) (cwV 1 hts gX7_readInto_X6_at rfl rfl rfl (by decide +kernel) ⟨(Nat.le_of_ble_eq_true rfl), (Nat.le_of_ble_eq_true rfl)⟩) (pre_V hK hP hD [5, 6] rfl rfl rfl rfl) rfl rfl hl.1 rfl (lv_room (Nat.le_of_ble_eq_true rfl)) dX7_readInto_86 ⟨Nat.zero_le _, Nat.zero_le _⟩) hP hD hS hA [5, 6] [0, 1, 2, 3, 4] [0, 1, 2, 3, 4, 5, 6] rfl rfl rfl (by decide) rfl rfl (fun H locs hP hD hS => ?_)
        refine lv_bipush (v := 48) hx hb dX7_readInto_89 (by decide) ?_
        refine lv_isub hx hb dX7_readInto_91 ?_
        refine lv_imul hx hb dX7_readInto_92 ?_
        refine lv_aload_n hx hb dX7_readInto_93 rfl (lv_at hl 2 rfl) ?_
        refine lv_iload hx hb dX7_readInto_94 (lv_at hl 0 rfl) ?_
        refine lv_iconst (v := 3) hx hb dX7_readInto_96 (by decide) ?_
        refine lv_iadd hx hb dX7_readInto_97 ?_
        obtain ⟨y14, h15, hM⟩ := s_bd hM
        refine af_i (ws2 := (w_Te_readInto cI cJ cS q_plan q_from q_plan_kinds q_plan_comes q_plan_wants q_plan_outs q_from_cells plan_law plan_count plan_bells (upd plan_kinds x4.toNatClampNeg y9) plan_comes plan_wants plan_outs from_lane from_size from_cells)) (va_runV (As := [.int (y6 + 3)]) (rest := [.int (10 * (y12 - 48)), .int x4, .ref q_plan_comes]) ⟨hx, hb, hml, hown, hts⟩ (c_Sh_at l D cI cJ cS q_from q_from_cells from_lane from_size from_cells (y6 + 3) y14 h15 _) (cwV 1 hts gX7_readInto_X6_at rfl rfl rfl (by decide +kernel) ⟨(Nat.le_of_ble_eq_true rfl), (Nat.le_of_ble_eq_true rfl)⟩) (pre_V hK hP hD [5, 6] rfl rfl rfl rfl) rfl rfl hl.1 rfl (lv_room (Nat.le_of_ble_eq_true rfl)) dX7_readInto_98 ⟨Nat.zero_le _, Nat.zero_le _⟩) hP hD hS hA [5, 6] [0, 1, 2, 3, 4] [0, 1, 2, 3, 4, 5, 6] rfl rfl rfl (by decide) rfl rfl (fun H locs hP hD hS => ?_)
        refine lv_iadd hx hb dX7_readInto_101 ?_
        refine lv_bipush (v := 48) hx hb dX7_readInto_102 (by decide) ?_
        refine lv_isub hx hb dX7_readInto_104 ?_
        refine lv_topi (fun y16 ey16 => ?_)
        have hM := s_lt hM y16 ey16
        obtain ⟨h17, hM⟩ := s_ck hM
        refine va_iast hx hb hK.1 hP hD hS 2 0 rfl rfl h17 dX7_readInto_105 (fun H locs hP hD hS => ?_)
        have hP : va_P D vwCl (w_Te_readInto cI cJ cS q_plan q_from q_plan_kinds q_plan_comes q_plan_wants q_plan_outs q_from_cells plan_law plan_count plan_bells (upd plan_kinds x4.toNatClampNeg y9) (upd plan_comes x4.toNatClampNeg y16) plan_wants plan_outs from_lane from_size from_cells) H := hP
        have hD : va_D A (w_Te_readInto cI cJ cS q_plan q_from q_plan_kinds q_plan_comes q_plan_wants q_plan_outs q_from_cells plan_law plan_count plan_bells (upd plan_kinds x4.toNatClampNeg y9) (upd plan_comes x4.toNatClampNeg y16) plan_wants plan_outs from_lane from_size from_cells) := hD
        refine lv_aload_n hx hb dX7_readInto_106 rfl (lv_at hl 1 rfl) ?_
        refine va_get (ci := 3) (v := .ref q_plan_wants) (C := RX3) (T := TX3) (N := 7) hx hb hts iX3 hown hK.1 hP 0 rfl rfl 5 (Nat.le_of_ble_eq_true rfl) k9 (fun _ h9 => h9) rfl dX7_readInto_107 ?_
        refine lv_iload hx hb dX7_readInto_110 (lv_at hl 4 rfl) ?_
        refine lv_aload_n hx hb dX7_readInto_112 rfl (lv_at hl 2 rfl) ?_
        refine lv_iload hx hb dX7_readInto_113 (lv_at hl 0 rfl) ?_
        refine lv_iconst (v := 4) hx hb dX7_readInto_115 (by decide) ?_
        refine lv_iadd hx hb dX7_readInto_116 ?_
        obtain ⟨y18, h19, hM⟩ := s_bd hM
        refine af_i (ws2 := (w_Te_readInto cI cJ cS q_plan q_from q_plan_kinds q_plan_comes q_plan_wants q_plan_outs q_from_cells plan_law plan_count plan_bells (upd plan_kinds x4.toNatClampNeg y9) (upd plan_comes x4.toNatClampNeg y16) plan_wants plan_outs from_lane from_size from_cells)) (va_runV (As := [.int (y6 + 4)]) (rest := [.int x4, .ref q_plan_wants]) ⟨hx, hb, hml, hown, hts⟩ (c_Sh_at l D cI cJ cS q_from q_from_cells from_lane from_size from_cells (y6 + 4) y18 h19 _) (cwV 1 hts gX7_readInto_X6_at rfl rfl rfl (by decide +kernel) ⟨(Nat.le_of_ble_eq_true rfl), (Nat.le_of_ble_eq_true rfl)⟩) (pre_V hK hP hD [5, 6] rfl rfl rfl rfl) rfl rfl hl.1 rfl (lv_room (Nat.le_of_ble_eq_true rfl)) dX7_readInto_117 ⟨Nat.zero_le _, Nat.zero_le _⟩) hP hD hS hA [5, 6] [0, 1, 2, 3, 4] [0, 1, 2, 3, 4, 5, 6] rfl rfl rfl (by decide) rfl rfl (fun H locs hP hD hS => ?_)
        refine lv_bipush (v := 48) hx hb dX7_readInto_120 (by decide) ?_
        refine lv_isub hx hb dX7_readInto_122 ?_
        refine lv_topi (fun y20 ey20 => ?_)
        have hM := s_lt hM y20 ey20
        obtain ⟨h21, hM⟩ := s_ck hM
        refine va_iast hx hb hK.1 hP hD hS 3 0 rfl rfl h21 dX7_readInto_123 (fun H locs hP hD hS => ?_)
        have hP : va_P D vwCl (w_Te_readInto cI cJ cS q_plan q_from q_plan_kinds q_plan_comes q_plan_wants q_plan_outs q_from_cells plan_law plan_count plan_bells (upd plan_kinds x4.toNatClampNeg y9) (upd plan_comes x4.toNatClampNeg y16) (upd plan_wants x4.toNatClampNeg y20) plan_outs from_lane from_size from_cells) H := hP
        have hD : va_D A (w_Te_readInto cI cJ cS q_plan q_from q_plan_kinds q_plan_comes q_plan_wants q_plan_outs q_from_cells plan_law plan_count plan_bells (upd plan_kinds x4.toNatClampNeg y9) (upd plan_comes x4.toNatClampNeg y16) (upd plan_wants x4.toNatClampNeg y20) plan_outs from_lane from_size from_cells) := hD
        refine lv_aload_n hx hb dX7_readInto_124 rfl (lv_at hl 1 rfl) ?_
        refine va_get (ci := 3) (v := .ref q_plan_outs) (C := RX3) (T := TX3) (N := 7) hx hb hts iX3 hown hK.1 hP 0 rfl rfl 6 (Nat.le_of_ble_eq_true rfl) k10 (fun _ h9 => h9) rfl dX7_readInto_125 ?_
        refine lv_iload hx hb dX7_readInto_128 (lv_at hl 4 rfl) ?_
        refine lv_bipush (v := (-9)) hx hb dX7_readInto_130 (by decide) ?_
        obtain ⟨h22, hM⟩ := s_ck hM
        refine va_iast hx hb hK.1 hP hD hS 4 0 rfl rfl h22 dX7_readInto_132 (fun H locs hP hD hS => ?_)
        have hP : va_P D vwCl (w_Te_readInto cI cJ cS q_plan q_from q_plan_kinds q_plan_comes q_plan_wants q_plan_outs q_from_cells plan_law plan_count plan_bells (upd plan_kinds x4.toNatClampNeg y9) (upd plan_comes x4.toNatClampNeg y16) (upd plan_wants x4.toNatClampNeg y20) (upd plan_outs x4.toNatClampNeg (-9)) from_lane from_size from_cells) H := hP
        have hD : va_D A (w_Te_readInto cI cJ cS q_plan q_from q_plan_kinds q_plan_comes q_plan_wants q_plan_outs q_from_cells plan_law plan_count plan_bells (upd plan_kinds x4.toNatClampNeg y9) (upd plan_comes x4.toNatClampNeg y16) (upd plan_wants x4.toNatClampNeg y20) (upd plan_outs x4.toNatClampNeg (-9)) from_lane from_size from_cells) := hD
        obtain ⟨y23, ey23⟩ : ∃ y : Int32, y = x4 + 1 := ⟨_, rfl⟩
        have hM := s_lt hM y23 ey23
        refine lv_iinc (v := y23) (lv' := [(4, .int y23), (5, .int y6), (0, .ref q_plan), (1, .ref q_from), (2, .int p_i)]) hx hb dX7_readInto_133 hl (k := 4) rfl (by rw [ey23]; rfl) (Nat.le_of_ble_eq_true rfl) rfl (fun ls hl => ?_)
        refine lv_goto (tgt := 36) hx hb dX7_readInto_136 (by decide) ?_
        exact ih y23 plan_law plan_count plan_bells (upd plan_kinds x4.toNatClampNeg y9) (upd plan_comes x4.toNatClampNeg y16) (upd plan_wants x4.toNatClampNeg y20) (upd plan_outs x4.toNatClampNeg (-9)) (s_jp hM) _ _ hP hD hS _ (lv_sub hl [2, 3, 4, 0] rfl)
  have J36 : ∀ (x4 : Int32) (plan_law : Int32) (plan_count : Int32) (plan_bells : Int64) (plan_kinds : Nat → Int32) (plan_comes : Nat → Int32) (plan_wants : Nat → Int32) (plan_outs : Nat → Int32), Te_readInto_l36 p_i p_n from_size from_cells x4 plan_law plan_count plan_bells plan_kinds plan_comes plan_wants plan_outs = some o → ∀ (H : Heap) (locs : List Loc), va_P D vwCl (w_Te_readInto cI cJ cS q_plan q_from q_plan_kinds q_plan_comes q_plan_wants q_plan_outs q_from_cells plan_law plan_count plan_bells plan_kinds plan_comes plan_wants plan_outs from_lane from_size from_cells) H → va_D A (w_Te_readInto cI cJ cS q_plan q_from q_plan_kinds q_plan_comes q_plan_wants q_plan_outs q_from_cells plan_law plan_count plan_bells plan_kinds plan_comes plan_wants plan_outs from_lane from_size from_cells) → va_S A s.heap H locs → ∀ ls : Array Slot, lv_has ls 6 [(0, .ref q_plan), (1, .ref q_from), (2, .int p_i), (4, .int x4)] → W p l e (headSpec wsX7_readInto rm_Te_readInto).room s m args below meth c H locs 0 0 (MQ below (CQv D (w_Te_readInto cI cJ cS q_plan q_from q_plan_kinds q_plan_comes q_plan_wants q_plan_outs q_from_cells o.1 o.2.1 o.2.2.1 o.2.2.2.1 o.2.2.2.2.1 o.2.2.2.2.2.1 o.2.2.2.2.2.2 from_lane from_size from_cells) A) args s 0 0 A) (F0 m 36 ls []) := by
    intro x4 plan_law plan_count plan_bells plan_kinds plan_comes plan_wants plan_outs hM
    unfold Te_readInto_l36 at hM
    obtain ⟨n0, hM⟩ := fin_some hM
    exact (L36 n0) x4 plan_law plan_count plan_bells plan_kinds plan_comes plan_wants plan_outs hM
  unfold Te_readInto at hM
  refine lv_aload_n hx hb dX7_readInto_0 rfl (lv_at hl 0 rfl) ?_
  refine lv_aload_n hx hb dX7_readInto_1 rfl (lv_at hl 1 rfl) ?_
  refine lv_iload_n hx hb dX7_readInto_2 rfl (lv_at hl 2 rfl) ?_
  refine lv_iconst (v := 1) hx hb dX7_readInto_3 (by decide) ?_
  refine lv_iadd hx hb dX7_readInto_4 ?_
  obtain ⟨y1, h2, hM⟩ := o_bd hM
  refine af_i (ws2 := (w_Te_readInto cI cJ cS q_plan q_from q_plan_kinds q_plan_comes q_plan_wants q_plan_outs q_from_cells plan_law plan_count plan_bells plan_kinds plan_comes plan_wants plan_outs from_lane from_size from_cells)) (va_runV (As := [.int (p_i + 1)]) (rest := [.ref q_plan]) ⟨hx, hb, hml, hown, hts⟩ (c_Sh_at l D cI cJ cS q_from q_from_cells from_lane from_size from_cells (p_i + 1) y1 h2 _) (cwV 1 hts gX7_readInto_X6_at rfl rfl rfl (by decide +kernel) ⟨(Nat.le_of_ble_eq_true rfl), (Nat.le_of_ble_eq_true rfl)⟩) (pre_V hK hP hD [5, 6] rfl rfl rfl rfl) rfl rfl hl.1 rfl (lv_room (Nat.le_of_ble_eq_true rfl)) dX7_readInto_5 ⟨Nat.zero_le _, Nat.zero_le _⟩) hP hD hS hA [5, 6] [0, 1, 2, 3, 4] [0, 1, 2, 3, 4, 5, 6] rfl rfl rfl (by decide) rfl rfl (fun H locs hP hD hS => ?_)
  refine lv_bipush (v := 48) hx hb dX7_readInto_8 (by decide) ?_
  refine lv_isub hx hb dX7_readInto_10 ?_
  refine lv_topi (fun y3 ey3 => ?_)
  have hM := o_lt hM y3 ey3
  refine va_put (ci := 3) (v := .int y3) (ty := .int) (C := RX3) (T := TX3) (N := 7) hx hb hts iX3 tyX3 tyX3_ok nmX3 hown hK.1 hP hD hS 0 rfl rfl 0 (Nat.le_of_ble_eq_true rfl) k0 (fun _ h9 => h9) rfl (tyX3_ok 0 (Nat.le_of_ble_eq_true rfl)) rfl rfl (Nat.le_of_ble_eq_true rfl) dX7_readInto_11 (fun H locs hP hD hS => ?_)
  have hP : va_P D vwCl (w_Te_readInto cI cJ cS q_plan q_from q_plan_kinds q_plan_comes q_plan_wants q_plan_outs q_from_cells y3 plan_count plan_bells plan_kinds plan_comes plan_wants plan_outs from_lane from_size from_cells) H := hP
  have hD : va_D A (w_Te_readInto cI cJ cS q_plan q_from q_plan_kinds q_plan_comes q_plan_wants q_plan_outs q_from_cells y3 plan_count plan_bells plan_kinds plan_comes plan_wants plan_outs from_lane from_size from_cells) := hD
  refine lv_aload_n hx hb dX7_readInto_14 rfl (lv_at hl 0 rfl) ?_
  refine lv_iload_n hx hb dX7_readInto_15 rfl (lv_at hl 3 rfl) ?_
  refine lv_iconst (v := 2) hx hb dX7_readInto_16 (by decide) ?_
  refine lv_isub hx hb dX7_readInto_17 ?_
  refine lv_iconst (v := 5) hx hb dX7_readInto_18 (by decide) ?_
  refine lv_idiv hx hb dX7_readInto_19 (by decide) ?_
  refine lv_bipush (v := 7) hx hb dX7_readInto_20 (by decide) ?_
  refine va_mmin hx hb (by rw [hml]; exact hl.1.symm) hown k1 k2 k3 k4 (Nat.le_of_ble_eq_true rfl) (Nat.le_of_ble_eq_true rfl) (Nat.zero_le _) (Nat.zero_le _) dX7_readInto_22 ?_
  refine lv_topi (fun y4 ey4 => ?_)
  have hM := o_lt hM y4 ey4
  refine va_put (ci := 3) (v := .int y4) (ty := .int) (C := RX3) (T := TX3) (N := 7) hx hb hts iX3 tyX3 tyX3_ok nmX3 hown hK.1 hP hD hS 0 rfl rfl 1 (Nat.le_of_ble_eq_true rfl) k5 (fun _ h9 => h9) rfl (tyX3_ok 1 (Nat.le_of_ble_eq_true rfl)) rfl rfl (Nat.le_of_ble_eq_true rfl) dX7_readInto_25 (fun H locs hP hD hS => ?_)
  have hP : va_P D vwCl (w_Te_readInto cI cJ cS q_plan q_from q_plan_kinds q_plan_comes q_plan_wants q_plan_outs q_from_cells y3 y4 plan_bells plan_kinds plan_comes plan_wants plan_outs from_lane from_size from_cells) H := hP
  have hD : va_D A (w_Te_readInto cI cJ cS q_plan q_from q_plan_kinds q_plan_comes q_plan_wants q_plan_outs q_from_cells y3 y4 plan_bells plan_kinds plan_comes plan_wants plan_outs from_lane from_size from_cells) := hD
  refine lv_aload_n hx hb dX7_readInto_28 rfl (lv_at hl 0 rfl) ?_
  refine lv_lconst (v := 0) hx hb dX7_readInto_29 (by decide) ?_
  refine va_put (ci := 3) (v := .long 0) (ty := .long) (C := RX3) (T := TX3) (N := 7) hx hb hts iX3 tyX3 tyX3_ok nmX3 hown hK.1 hP hD hS 0 rfl rfl 2 (Nat.le_of_ble_eq_true rfl) k6 (fun _ h9 => h9) rfl (tyX3_ok 2 (Nat.le_of_ble_eq_true rfl)) rfl rfl (Nat.le_of_ble_eq_true rfl) dX7_readInto_30 (fun H locs hP hD hS => ?_)
  have hP : va_P D vwCl (w_Te_readInto cI cJ cS q_plan q_from q_plan_kinds q_plan_comes q_plan_wants q_plan_outs q_from_cells y3 y4 0 plan_kinds plan_comes plan_wants plan_outs from_lane from_size from_cells) H := hP
  have hD : va_D A (w_Te_readInto cI cJ cS q_plan q_from q_plan_kinds q_plan_comes q_plan_wants q_plan_outs q_from_cells y3 y4 0 plan_kinds plan_comes plan_wants plan_outs from_lane from_size from_cells) := hD
  refine lv_iconst (v := 0) hx hb dX7_readInto_33 (by decide) ?_
  refine lv_istore (lv' := [(4, .int 0), (0, .ref q_plan), (1, .ref q_from), (2, .int p_i), (3, .int p_n)]) hx hb dX7_readInto_34 hl (Nat.le_of_ble_eq_true rfl) rfl (fun ls hl => ?_)
  exact J36 0 y3 y4 0 plan_kinds plan_comes plan_wants plan_outs hM _ _ hP hD hS _ (lv_sub hl [1, 2, 3, 0] rfl)

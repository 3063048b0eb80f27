/-! ===== TurnQueue$Line.placeOf ===== -/
abbrev w_Li_placeOf (cI cJ cS : ClassId) (q_t : Nat) (q_t_row : Nat) (t_size : Int32) (t_row : Nat → Int32) : va_W := [(q_t, .inr (2, [.ref q_t_row, .int t_size])), (q_t_row, ar cI 7 t_row)]
abbrev rm_Li_placeOf : Room := { frames := 0, cells := 0, slots := 0, locals := 0 }
noncomputable def Li_placeOf_b2 (p_p : Int32) (t_size : Int32) (t_row : Nat → Int32) (x2 : Int32) : Option ((Int32) ⊕ (Int32)) :=
  if t_size ≤ x2 then
    some (.inr (-9))
  else
    if ck x2 7 = true then
      if (t_row x2.toNatClampNeg) = p_p then
        some (.inr x2)
      else
        lt (x2 + 1) fun y4 =>
        some (.inl (y4))
    else none
noncomputable def Li_placeOf_s2 (p_p : Int32) (t_size : Int32) (t_row : Nat → Int32) : (Int32) → Option ((Int32) ⊕ (Int32)) := fun x => Li_placeOf_b2 p_p t_size t_row x
noncomputable def Li_placeOf_l2 (p_p : Int32) (t_size : Int32) (t_row : Nat → Int32) (x2 : Int32) : Option (Int32) := fin (Li_placeOf_s2 p_p t_size t_row) (x2)
noncomputable def Li_placeOf (p_p : Int32) (t_size : Int32) (t_row : Nat → Int32) : Option (Int32) :=
  Li_placeOf_l2 p_p t_size t_row 0
theorem Li_placeOf_l2_eq (p_p : Int32) (t_size : Int32) (t_row : Nat → Int32) (x2 : Int32) : Li_placeOf_l2 p_p t_size t_row x2 = (Li_placeOf_b2 p_p t_size t_row x2).bind (sg (fin (Li_placeOf_s2 p_p t_size t_row))) := by
  unfold Li_placeOf_l2
  exact fin_eq _ _
theorem Li_placeOf_l2_fd (p_p : Int32) (t_size : Int32) (t_row : Nat → Int32) (x2 : Int32) : fin (Li_placeOf_s2 p_p t_size t_row) (x2) = Li_placeOf_l2 p_p t_size t_row x2 := rfl
set_option maxRecDepth 100000 in
set_option maxHeartbeats 4000000 in
theorem c_Li_placeOf (l : Launch) (D : va_G) (cI cJ cS : ClassId) (q_t q_t_row : Nat) (t_size : Int32) (t_row : Nat → Int32) (p_p : Int32) (o : Int32) (hM : Li_placeOf p_p t_size t_row = some o) : Ci l yX2_placeOf wsX2_placeOf rm_Li_placeOf D cI cJ cS [.ref q_t, .int p_p] (w_Li_placeOf cI cJ cS q_t q_t_row t_size t_row) (w_Li_placeOf cI cJ cS q_t q_t_row t_size t_row) o := by
  refine Ci.of (cc := cX2_placeOf) (maxL := 3) (ret := (some .int)) (by decide) rfl (Nat.le_of_ble_eq_true rfl) ?_
  intro p e s m args below meth c A ls hE
  obtain ⟨hx, hb, hr, hml, hown, hts, hlocks, hK, hA, hP, hD, hS, hl⟩ := hE
  have hown : s.vm.findClass RX2 = some m.cls := hown
  have hl : lv_has ls 3 [(0, .ref q_t), (1, .int p_p)] := hl
  have iX2 : ∀ w ∈ u_ws RX2 TX2 2, w ∈ wsX2_placeOf := by decide +kernel
  have k0 := hts (.fieldLink RX2 15 "TurnQueue$Line" "size" "I") (by decide +kernel)
  have k1 := hts (.fieldLink RX2 9 "TurnQueue$Line" "row" "[I") (by decide +kernel)
  have L2 : ∀ n : Nat, (∀ (x2 : Int32), itr (Li_placeOf_s2 p_p t_size t_row) n (x2) = some o → ∀ (H : Heap) (locs : List Loc), va_P D vwCl (w_Li_placeOf cI cJ cS q_t q_t_row t_size t_row) H → va_D A (w_Li_placeOf cI cJ cS q_t q_t_row t_size t_row) → va_S A s.heap H locs → ∀ ls : Array Slot, lv_has ls 3 [(0, .ref q_t), (1, .int p_p), (2, .int x2)] → W p l e (headSpec wsX2_placeOf rm_Li_placeOf).room s m args below meth c H locs 0 0 (MQ below (CQi D (w_Li_placeOf cI cJ cS q_t q_t_row t_size t_row) A o) args s 0 0 A) (F0 m 2 ls [])) := by
    intro n
    induction n with
    | zero => exact fun _ hM => (itr_0 hM).elim
    | succ n ih =>
      intro x2 hM H locs hP hD hS ls hl
      have hM : (Li_placeOf_b2 p_p t_size t_row x2).bind (sg (itr (Li_placeOf_s2 p_p t_size t_row) n)) = some o := hM
      unfold Li_placeOf_b2 at hM
      refine lv_iload_n hx hb dX2_placeOf_2 rfl (lv_at hl 2 rfl) ?_
      refine lv_aload_n hx hb dX2_placeOf_3 rfl (lv_at hl 0 rfl) ?_
      refine va_get (ci := 2) (v := .int t_size) (C := RX2) (T := TX2) (N := 2) hx hb hts iX2 hown hK.1 hP 0 rfl rfl 1 (Nat.le_of_ble_eq_true rfl) k0 (fun _ h9 => h9) rfl dX2_placeOf_4 ?_
      refine lv_icmp_ge (tgt := 28) hx hb dX2_placeOf_7 (by decide) (fun c1 => ?_) (fun c1 => ?_)
      · have hM := (s_if hM).1 c1
        refine lv_bipush (v := (-9)) hx hb dX2_placeOf_28 (by decide) ?_
        have hM := (Option.some.inj (s_rt hM))
        subst hM
        exact rt_i hx hb hr hlocks hP hD hS dX2_placeOf_30
      · have hM := (s_if hM).2 c1
        refine lv_aload_n hx hb dX2_placeOf_10 rfl (lv_at hl 0 rfl) ?_
        refine va_get (ci := 2) (v := .ref q_t_row) (C := RX2) (T := TX2) (N := 2) hx hb hts iX2 hown hK.1 hP 0 rfl rfl 0 (Nat.le_of_ble_eq_true rfl) k1 (fun _ h9 => h9) rfl dX2_placeOf_11 ?_
        refine lv_iload_n hx hb dX2_placeOf_14 rfl (lv_at hl 2 rfl) ?_
        obtain ⟨h2, hM⟩ := s_ck hM
        refine va_iald hx hb hK.1 hP 1 0 rfl rfl h2 dX2_placeOf_15 ?_
        refine lv_iload_n hx hb dX2_placeOf_16 rfl (lv_at hl 1 rfl) ?_
        refine lv_icmp_ne (tgt := 22) hx hb dX2_placeOf_17 (by decide) (fun c3 => ?_) (fun c3 => ?_)
        · have hM := (s_if hM).2 c3
          obtain ⟨y4, ey4⟩ : ∃ y : Int32, y = x2 + 1 := ⟨_, rfl⟩
          have hM := s_lt hM y4 ey4
          refine lv_iinc (v := y4) (lv' := [(2, .int y4), (0, .ref q_t), (1, .int p_p)]) hx hb dX2_placeOf_22 hl (k := 2) rfl (by rw [ey4]; rfl) (Nat.le_of_ble_eq_true rfl) rfl (fun ls hl => ?_)
          refine lv_goto (tgt := 2) hx hb dX2_placeOf_25 (by decide) ?_
          exact ih y4 (s_jp hM) _ _ hP hD hS _ (lv_sub hl [1, 2, 0] rfl)
        · have hM := (s_if hM).1 c3
          refine lv_iload_n hx hb dX2_placeOf_20 rfl (lv_at hl 2 rfl) ?_
          have hM := (Option.some.inj (s_rt hM))
          subst hM
          exact rt_i hx hb hr hlocks hP hD hS dX2_placeOf_21
  have J2 : ∀ (x2 : Int32), Li_placeOf_l2 p_p t_size t_row x2 = some o → ∀ (H : Heap) (locs : List Loc), va_P D vwCl (w_Li_placeOf cI cJ cS q_t q_t_row t_size t_row) H → va_D A (w_Li_placeOf cI cJ cS q_t q_t_row t_size t_row) → va_S A s.heap H locs → ∀ ls : Array Slot, lv_has ls 3 [(0, .ref q_t), (1, .int p_p), (2, .int x2)] → W p l e (headSpec wsX2_placeOf rm_Li_placeOf).room s m args below meth c H locs 0 0 (MQ below (CQi D (w_Li_placeOf cI cJ cS q_t q_t_row t_size t_row) A o) args s 0 0 A) (F0 m 2 ls []) := by
    intro x2 hM
    unfold Li_placeOf_l2 at hM
    obtain ⟨n0, hM⟩ := fin_some hM
    exact (L2 n0) x2 hM
  unfold Li_placeOf at hM
  refine lv_iconst (v := 0) hx hb dX2_placeOf_0 (by decide) ?_
  refine lv_istore_n (lv' := [(2, .int 0), (0, .ref q_t), (1, .int p_p)]) hx hb dX2_placeOf_1 rfl hl (Nat.le_of_ble_eq_true rfl) rfl (fun ls hl => ?_)
  exact J2 0 hM _ _ hP hD hS _ (lv_sub hl [1, 2, 0] rfl)
/-! ===== TurnQueue$Line.remove ===== -/
abbrev w_Li_remove (cI cJ cS : ClassId) (q_t : Nat) (q_t_row : Nat) (t_size : Int32) (t_row : Nat → Int32) : va_W := [(q_t, .inr (2, [.ref q_t_row, .int t_size])), (q_t_row, ar cI 7 t_row)]
abbrev rm_Li_remove : Room := { frames := 0, cells := 0, slots := 0, locals := 0 }
noncomputable def Li_remove_b34 (p_place : Int32) (x2 : Int32) (x3 : Int32) (t_size : Int32) (t_row : Nat → Int32) : Option ((Int32 × Int32 × Int32 × (Nat → Int32)) ⊕ (Int32 × Int32 × (Nat → Int32))) :=
  if t_size ≤ x3 then
    some (.inr (x2, t_size, t_row))
  else
    if ck (x3 + 1) 7 = true then
      lt (t_row (x3 + 1).toNatClampNeg) fun y8 =>
      if ck x3 7 = true then
        lt (x3 + 1) fun y10 =>
        some (.inl (x2, y10, t_size, upd t_row x3.toNatClampNeg y8))
      else none
    else none
noncomputable def Li_remove_s34 (p_place : Int32) : (Int32 × Int32 × Int32 × (Nat → Int32)) → Option ((Int32 × Int32 × Int32 × (Nat → Int32)) ⊕ (Int32 × Int32 × (Nat → Int32))) := fun x => Li_remove_b34 p_place x.1 x.2.1 x.2.2.1 x.2.2.2
noncomputable def Li_remove_l34 (p_place : Int32) (x2 : Int32) (x3 : Int32) (t_size : Int32) (t_row : Nat → Int32) : Option (Int32 × Int32 × (Nat → Int32)) := fin (Li_remove_s34 p_place) (x2, x3, t_size, t_row)
noncomputable def Li_remove (p_place : Int32) (t_size : Int32) (t_row : Nat → Int32) : Option (Int32 × Int32 × (Nat → Int32)) :=
  if p_place < 0 then
    some ((-9), t_size, t_row)
  else
    if p_place < t_size then
      if ck p_place 7 = true then
        lt (t_row p_place.toNatClampNeg) fun y4 =>
        lt (t_size - 1) fun y5 =>
        Li_remove_l34 p_place y4 p_place y5 t_row
      else none
    else
      some ((-9), t_size, t_row)
theorem Li_remove_l34_eq (p_place : Int32) (x2 : Int32) (x3 : Int32) (t_size : Int32) (t_row : Nat → Int32) : Li_remove_l34 p_place x2 x3 t_size t_row = (Li_remove_b34 p_place x2 x3 t_size t_row).bind (sg (fin (Li_remove_s34 p_place))) := by
  unfold Li_remove_l34
  exact fin_eq _ _
theorem Li_remove_l34_fd (p_place : Int32) (x2 : Int32) (x3 : Int32) (t_size : Int32) (t_row : Nat → Int32) : fin (Li_remove_s34 p_place) (x2, x3, t_size, t_row) = Li_remove_l34 p_place x2 x3 t_size t_row := rfl
set_option maxRecDepth 100000 in
set_option maxHeartbeats 4000000 in
theorem c_Li_remove (l : Launch) (D : va_G) (cI cJ cS : ClassId) (q_t q_t_row : Nat) (t_size : Int32) (t_row : Nat → Int32) (p_place : Int32) (o : Int32 × Int32 × (Nat → Int32)) (hM : Li_remove p_place t_size t_row = some o) : Ci l yX2_remove wsX2_remove rm_Li_remove D cI cJ cS [.ref q_t, .int p_place] (w_Li_remove cI cJ cS q_t q_t_row t_size t_row) (w_Li_remove cI cJ cS q_t q_t_row o.2.1 o.2.2) o.1 := by
  refine Ci.of (cc := cX2_remove) (maxL := 4) (ret := (some .int)) (by decide) rfl (Nat.le_of_ble_eq_true rfl) ?_
  intro p e s m args below meth c A ls hE
  obtain ⟨hx, hb, hr, hml, hown, hts, hlocks, hK, hA, hP, hD, hS, hl⟩ := hE
  have hown : s.vm.findClass RX2 = some m.cls := hown
  have hl : lv_has ls 4 [(0, .ref q_t), (1, .int p_place)] := hl
  have iX2 : ∀ w ∈ u_ws RX2 TX2 2, w ∈ wsX2_remove := by decide +kernel
  have k0 := hts (.fieldLink RX2 15 "TurnQueue$Line" "size" "I") (by decide +kernel)
  have k1 := hts (.fieldLink RX2 9 "TurnQueue$Line" "row" "[I") (by decide +kernel)
  have L34 : ∀ n : Nat, (∀ (x2 : Int32) (x3 : Int32) (t_size : Int32) (t_row : Nat → Int32), itr (Li_remove_s34 p_place) n (x2, x3, t_size, t_row) = some o → ∀ (H : Heap) (locs : List Loc), va_P D vwCl (w_Li_remove cI cJ cS q_t q_t_row t_size t_row) H → va_D A (w_Li_remove cI cJ cS q_t q_t_row t_size t_row) → va_S A s.heap H locs → ∀ ls : Array Slot, lv_has ls 4 [(0, .ref q_t), (2, .int x2), (3, .int x3)] → W p l e (headSpec wsX2_remove rm_Li_remove).room s m args below meth c H locs 0 0 (MQ below (CQi D (w_Li_remove cI cJ cS q_t q_t_row o.2.1 o.2.2) A o.1) args s 0 0 A) (F0 m 34 ls [])) := by
    intro n
    induction n with
    | zero => exact fun _ _ _ _ hM => (itr_0 hM).elim
    | succ n ih =>
      intro x2 x3 t_size t_row hM H locs hP hD hS ls hl
      have hM : (Li_remove_b34 p_place x2 x3 t_size t_row).bind (sg (itr (Li_remove_s34 p_place) n)) = some o := hM
      unfold Li_remove_b34 at hM
      refine lv_iload_n hx hb dX2_remove_34 rfl (lv_at hl 2 rfl) ?_
      refine lv_aload_n hx hb dX2_remove_35 rfl (lv_at hl 0 rfl) ?_
      refine va_get (ci := 2) (v := .int t_size) (C := RX2) (T := TX2) (N := 2) hx hb hts iX2 hown hK.1 hP 0 rfl rfl 1 (Nat.le_of_ble_eq_true rfl) k0 (fun _ h9 => h9) rfl dX2_remove_36 ?_
      refine lv_icmp_ge (tgt := 62) hx hb dX2_remove_39 (by decide) (fun c6 => ?_) (fun c6 => ?_)
      · have hM := (s_if hM).1 c6
        refine lv_iload_n hx hb dX2_remove_62 rfl (lv_at hl 1 rfl) ?_
        have hM := (Option.some.inj (s_rt hM))
        subst hM
        exact rt_i hx hb hr hlocks hP hD hS dX2_remove_63
      · have hM := (s_if hM).2 c6
        refine lv_aload_n hx hb dX2_remove_42 rfl (lv_at hl 0 rfl) ?_
        refine va_get (ci := 2) (v := .ref q_t_row) (C := RX2) (T := TX2) (N := 2) hx hb hts iX2 hown hK.1 hP 0 rfl rfl 0 (Nat.le_of_ble_eq_true rfl) k1 (fun _ h9 => h9) rfl dX2_remove_43 ?_
        refine lv_iload_n hx hb dX2_remove_46 rfl (lv_at hl 2 rfl) ?_
        refine lv_aload_n hx hb dX2_remove_47 rfl (lv_at hl 0 rfl) ?_
        refine va_get (ci := 2) (v := .ref q_t_row) (C := RX2) (T := TX2) (N := 2) hx hb hts iX2 hown hK.1 hP 0 rfl rfl 0 (Nat.le_of_ble_eq_true rfl) k1 (fun _ h9 => h9) rfl dX2_remove_48 ?_
        refine lv_iload_n hx hb dX2_remove_51 rfl (lv_at hl 2 rfl) ?_
        refine lv_iconst (v := 1) hx hb dX2_remove_52 (by decide) ?_
        refine lv_iadd hx hb dX2_remove_53 ?_
        obtain ⟨h7, hM⟩ := s_ck hM
        refine va_iald hx hb hK.1 hP 1 0 rfl rfl h7 dX2_remove_54 ?_
        refine lv_topi (fun y8 ey8 => ?_)
        have hM := s_lt hM y8 ey8
        obtain ⟨h9, hM⟩ := s_ck hM
        refine va_iast hx hb hK.1 hP hD hS 1 0 rfl rfl h9 dX2_remove_55 (fun H locs hP hD hS => ?_)
        have hP : va_P D vwCl (w_Li_remove cI cJ cS q_t q_t_row t_size (upd t_row x3.toNatClampNeg y8)) H := hP
        have hD : va_D A (w_Li_remove cI cJ cS q_t q_t_row t_size (upd t_row x3.toNatClampNeg y8)) := hD
        obtain ⟨y10, ey10⟩ : ∃ y : Int32, y = x3 + 1 := ⟨_, rfl⟩
        have hM := s_lt hM y10 ey10
        refine lv_iinc (v := y10) (lv' := [(3, .int y10), (0, .ref q_t), (2, .int x2)]) hx hb dX2_remove_56 hl (k := 2) rfl (by rw [ey10]; rfl) (Nat.le_of_ble_eq_true rfl) rfl (fun ls hl => ?_)
        refine lv_goto (tgt := 34) hx hb dX2_remove_59 (by decide) ?_
        exact ih x2 y10 t_size (upd t_row x3.toNatClampNeg y8) (s_jp hM) _ _ hP hD hS _ (lv_sub hl [1, 2, 0] rfl)
  have J34 : ∀ (x2 : Int32) (x3 : Int32) (t_size : Int32) (t_row : Nat → Int32), Li_remove_l34 p_place x2 x3 t_size t_row = some o → ∀ (H : Heap) (locs : List Loc), va_P D vwCl (w_Li_remove cI cJ cS q_t q_t_row t_size t_row) H → va_D A (w_Li_remove cI cJ cS q_t q_t_row t_size t_row) → va_S A s.heap H locs → ∀ ls : Array Slot, lv_has ls 4 [(0, .ref q_t), (2, .int x2), (3, .int x3)] → W p l e (headSpec wsX2_remove rm_Li_remove).room s m args below meth c H locs 0 0 (MQ below (CQi D (w_Li_remove cI cJ cS q_t q_t_row o.2.1 o.2.2) A o.1) args s 0 0 A) (F0 m 34 ls []) := by
    intro x2 x3 t_size t_row hM
    unfold Li_remove_l34 at hM
    obtain ⟨n0, hM⟩ := fin_some hM
    exact (L34 n0) x2 x3 t_size t_row hM
  unfold Li_remove at hM
  refine lv_iload_n hx hb dX2_remove_0 rfl (lv_at hl 1 rfl) ?_
  refine lv_if_lt (tgt := 12) hx hb dX2_remove_1 (by decide) (fun c1 => ?_) (fun c1 => ?_)
  · have hM := (o_if hM).1 c1
    refine lv_bipush (v := (-9)) hx hb dX2_remove_12 (by decide) ?_
    have hM := (Option.some.inj hM)
    subst hM
    exact rt_i hx hb hr hlocks hP hD hS dX2_remove_14
  · have hM := (o_if hM).2 c1
    refine lv_iload_n hx hb dX2_remove_4 rfl (lv_at hl 1 rfl) ?_
    refine lv_aload_n hx hb dX2_remove_5 rfl (lv_at hl 0 rfl) ?_
    refine va_get (ci := 2) (v := .int t_size) (C := RX2) (T := TX2) (N := 2) hx hb hts iX2 hown hK.1 hP 0 rfl rfl 1 (Nat.le_of_ble_eq_true rfl) k0 (fun _ h9 => h9) rfl dX2_remove_6 ?_
    refine lv_icmp_lt (tgt := 15) hx hb dX2_remove_9 (by decide) (fun c2 => ?_) (fun c2 => ?_)
    · have hM := (o_if hM).1 c2
      refine lv_aload_n hx hb dX2_remove_15 rfl (lv_at hl 0 rfl) ?_
      refine va_get (ci := 2) (v := .ref q_t_row) (C := RX2) (T := TX2) (N := 2) hx hb hts iX2 hown hK.1 hP 0 rfl rfl 0 (Nat.le_of_ble_eq_true rfl) k1 (fun _ h9 => h9) rfl dX2_remove_16 ?_
      refine lv_iload_n hx hb dX2_remove_19 rfl (lv_at hl 1 rfl) ?_
      obtain ⟨h3, hM⟩ := o_ck hM
      refine va_iald hx hb hK.1 hP 1 0 rfl rfl h3 dX2_remove_20 ?_
      refine lv_topi (fun y4 ey4 => ?_)
      have hM := o_lt hM y4 ey4
      refine lv_istore_n (lv' := [(2, .int y4), (0, .ref q_t), (1, .int p_place)]) hx hb dX2_remove_21 rfl hl (Nat.le_of_ble_eq_true rfl) rfl (fun ls hl => ?_)
      refine lv_aload_n hx hb dX2_remove_22 rfl (lv_at hl 1 rfl) ?_
      refine lv_dup hx hb dX2_remove_23 rfl ?_
      refine va_get (ci := 2) (v := .int t_size) (C := RX2) (T := TX2) (N := 2) hx hb hts iX2 hown hK.1 hP 0 rfl rfl 1 (Nat.le_of_ble_eq_true rfl) k0 (fun _ h9 => h9) rfl dX2_remove_24 ?_
      refine lv_iconst (v := 1) hx hb dX2_remove_27 (by decide) ?_
      refine lv_isub hx hb dX2_remove_28 ?_
      refine lv_topi (fun y5 ey5 => ?_)
      have hM := o_lt hM y5 ey5
      refine va_put (ci := 2) (v := .int y5) (ty := .int) (C := RX2) (T := TX2) (N := 2) hx hb hts iX2 tyX2 tyX2_ok nmX2 hown hK.1 hP hD hS 0 rfl rfl 1 (Nat.le_of_ble_eq_true rfl) k0 (fun _ h9 => h9) rfl (tyX2_ok 1 (Nat.le_of_ble_eq_true rfl)) rfl rfl (Nat.le_of_ble_eq_true rfl) dX2_remove_29 (fun H locs hP hD hS => ?_)
      have hP : va_P D vwCl (w_Li_remove cI cJ cS q_t q_t_row y5 t_row) H := hP
      have hD : va_D A (w_Li_remove cI cJ cS q_t q_t_row y5 t_row) := hD
      refine lv_iload_n hx hb dX2_remove_32 rfl (lv_at hl 2 rfl) ?_
      refine lv_istore_n (lv' := [(3, .int p_place), (2, .int y4), (0, .ref q_t), (1, .int p_place)]) hx hb dX2_remove_33 rfl hl (Nat.le_of_ble_eq_true rfl) rfl (fun ls hl => ?_)
      exact J34 y4 p_place y5 t_row hM _ _ hP hD hS _ (lv_sub hl [2, 1, 0] rfl)
    · have hM := (o_if hM).2 c2
      refine lv_bipush (v := (-9)) hx hb dX2_remove_12 (by decide) ?_
      have hM := (Option.some.inj hM)
      subst hM
      exact rt_i hx hb hr hlocks hP hD hS dX2_remove_14
/-! ===== TurnQueue$Line.insert ===== -/
abbrev w_Li_insert (cI cJ cS : ClassId) (q_t : Nat) (q_t_row : Nat) (t_size : Int32) (t_row : Nat → Int32) : va_W := [(q_t, .inr (2, [.ref q_t_row, .int t_size])), (q_t_row, ar cI 7 t_row)]
abbrev rm_Li_insert : Room := { frames := 0, cells := 0, slots := 0, locals := 0 }
noncomputable def Li_insert_j52 (p_place : Int32) (p_p : Int32) (t_size : Int32) (t_row : Nat → Int32) : Option (Int32 × (Nat → Int32)) :=
  if ck p_place 7 = true then
    lt (t_size + 1) fun y6 =>
    some (y6, upd t_row p_place.toNatClampNeg p_p)
  else none
noncomputable def Li_insert_b27 (p_place : Int32) (p_p : Int32) (x3 : Int32) (t_size : Int32) (t_row : Nat → Int32) : Option ((Int32 × Int32 × (Nat → Int32)) ⊕ (Int32 × (Nat → Int32))) :=
  if x3 ≤ p_place then
    ex (Li_insert_j52 p_place p_p t_size t_row)
  else
    if ck (x3 - 1) 7 = true then
      lt (t_row (x3 - 1).toNatClampNeg) fun y8 =>
      if ck x3 7 = true then
        lt (x3 + (-1)) fun y10 =>
        some (.inl (y10, t_size, upd t_row x3.toNatClampNeg y8))
      else none
    else none
noncomputable def Li_insert_s27 (p_place : Int32) (p_p : Int32) : (Int32 × Int32 × (Nat → Int32)) → Option ((Int32 × Int32 × (Nat → Int32)) ⊕ (Int32 × (Nat → Int32))) := fun x => Li_insert_b27 p_place p_p x.1 x.2.1 x.2.2
noncomputable def Li_insert_l27 (p_place : Int32) (p_p : Int32) (x3 : Int32) (t_size : Int32) (t_row : Nat → Int32) : Option (Int32 × (Nat → Int32)) := fin (Li_insert_s27 p_place p_p) (x3, t_size, t_row)
noncomputable def Li_insert (p_place : Int32) (p_p : Int32) (t_size : Int32) (t_row : Nat → Int32) : Option (Int32 × (Nat → Int32)) :=
  if p_place < 0 then
    some (t_size, t_row)
  else
    if t_size < p_place then
      some (t_size, t_row)
    else
      if t_size < 7 then
        Li_insert_l27 p_place p_p t_size t_size t_row
      else
        some (t_size, t_row)
theorem Li_insert_l27_eq (p_place : Int32) (p_p : Int32) (x3 : Int32) (t_size : Int32) (t_row : Nat → Int32) : Li_insert_l27 p_place p_p x3 t_size t_row = (Li_insert_b27 p_place p_p x3 t_size t_row).bind (sg (fin (Li_insert_s27 p_place p_p))) := by
  unfold Li_insert_l27
  exact fin_eq _ _
theorem Li_insert_l27_fd (p_place : Int32) (p_p : Int32) (x3 : Int32) (t_size : Int32) (t_row : Nat → Int32) : fin (Li_insert_s27 p_place p_p) (x3, t_size, t_row) = Li_insert_l27 p_place p_p x3 t_size t_row := rfl
set_option maxRecDepth 100000 in
set_option maxHeartbeats 4000000 in
theorem c_Li_insert (l : Launch) (D : va_G) (cI cJ cS : ClassId) (q_t q_t_row : Nat) (t_size : Int32) (t_row : Nat → Int32) (p_place : Int32) (p_p : Int32) (o : Int32 × (Nat → Int32)) (hM : Li_insert p_place p_p t_size t_row = some o) : Cv l yX2_insert wsX2_insert rm_Li_insert D cI cJ cS [.ref q_t, .int p_place, .int p_p] (w_Li_insert cI cJ cS q_t q_t_row t_size t_row) (w_Li_insert cI cJ cS q_t q_t_row o.1 o.2) := by
  refine Cv.of (cc := cX2_insert) (maxL := 4) (ret := none) (by decide) rfl (Nat.le_of_ble_eq_true rfl) ?_
  intro p e s m args below meth c A ls hE
  obtain ⟨hx, hb, hr, hml, hown, hts, hlocks, hK, hA, hP, hD, hS, hl⟩ := hE
  have hown : s.vm.findClass RX2 = some m.cls := hown
  have hl : lv_has ls 4 [(0, .ref q_t), (1, .int p_place), (2, .int p_p)] := hl
  have iX2 : ∀ w ∈ u_ws RX2 TX2 2, w ∈ wsX2_insert := by decide +kernel
  have k0 := hts (.fieldLink RX2 15 "TurnQueue$Line" "size" "I") (by decide +kernel)
  have k1 := hts (.fieldLink RX2 9 "TurnQueue$Line" "row" "[I") (by decide +kernel)
  have J52 : ∀ (t_size : Int32) (t_row : Nat → Int32), Li_insert_j52 p_place p_p t_size t_row = some o → ∀ (H : Heap) (locs : List Loc), va_P D vwCl (w_Li_insert cI cJ cS q_t q_t_row t_size t_row) H → va_D A (w_Li_insert cI cJ cS q_t q_t_row t_size t_row) → va_S A s.heap H locs → ∀ ls : Array Slot, lv_has ls 4 [(0, .ref q_t), (1, .int p_place), (2, .int p_p)] → W p l e (headSpec wsX2_insert rm_Li_insert).room s m args below meth c H locs 0 0 (MQ below (CQv D (w_Li_insert cI cJ cS q_t q_t_row o.1 o.2) A) args s 0 0 A) (F0 m 52 ls []) := by
    intro t_size t_row hM H locs hP hD hS ls hl
    unfold Li_insert_j52 at hM
    refine lv_aload_n hx hb dX2_insert_52 rfl (lv_at hl 0 rfl) ?_
    refine va_get (ci := 2) (v := .ref q_t_row) (C := RX2) (T := TX2) (N := 2) hx hb hts iX2 hown hK.1 hP 0 rfl rfl 0 (Nat.le_of_ble_eq_true rfl) k1 (fun _ h9 => h9) rfl dX2_insert_53 ?_
    refine lv_iload_n hx hb dX2_insert_56 rfl (lv_at hl 1 rfl) ?_
    refine lv_iload_n hx hb dX2_insert_57 rfl (lv_at hl 2 rfl) ?_
    obtain ⟨h5, hM⟩ := o_ck hM
    refine va_iast hx hb hK.1 hP hD hS 1 0 rfl rfl h5 dX2_insert_58 (fun H locs hP hD hS => ?_)
    have hP : va_P D vwCl (w_Li_insert cI cJ cS q_t q_t_row t_size (upd t_row p_place.toNatClampNeg p_p)) H := hP
    have hD : va_D A (w_Li_insert cI cJ cS q_t q_t_row t_size (upd t_row p_place.toNatClampNeg p_p)) := hD
    refine lv_aload_n hx hb dX2_insert_59 rfl (lv_at hl 0 rfl) ?_
    refine lv_dup hx hb dX2_insert_60 rfl ?_
    refine va_get (ci := 2) (v := .int t_size) (C := RX2) (T := TX2) (N := 2) hx hb hts iX2 hown hK.1 hP 0 rfl rfl 1 (Nat.le_of_ble_eq_true rfl) k0 (fun _ h9 => h9) rfl dX2_insert_61 ?_
    refine lv_iconst (v := 1) hx hb dX2_insert_64 (by decide) ?_
    refine lv_iadd hx hb dX2_insert_65 ?_
    refine lv_topi (fun y6 ey6 => ?_)
    have hM := o_lt hM y6 ey6
    refine va_put (ci := 2) (v := .int y6) (ty := .int) (C := RX2) (T := TX2) (N := 2) hx hb hts iX2 tyX2 tyX2_ok nmX2 hown hK.1 hP hD hS 0 rfl rfl 1 (Nat.le_of_ble_eq_true rfl) k0 (fun _ h9 => h9) rfl (tyX2_ok 1 (Nat.le_of_ble_eq_true rfl)) rfl rfl (Nat.le_of_ble_eq_true rfl) dX2_insert_66 (fun H locs hP hD hS => ?_)
    have hP : va_P D vwCl (w_Li_insert cI cJ cS q_t q_t_row y6 (upd t_row p_place.toNatClampNeg p_p)) H := hP
    have hD : va_D A (w_Li_insert cI cJ cS q_t q_t_row y6 (upd t_row p_place.toNatClampNeg p_p)) := hD
    have hM := (Option.some.inj hM)
    subst hM
    exact rt_v hx hb hr hlocks hP hD hS dX2_insert_69
  have L27 : ∀ n : Nat, (∀ (x3 : Int32) (t_size : Int32) (t_row : Nat → Int32), itr (Li_insert_s27 p_place p_p) n (x3, t_size, t_row) = some o → ∀ (H : Heap) (locs : List Loc), va_P D vwCl (w_Li_insert cI cJ cS q_t q_t_row t_size t_row) H → va_D A (w_Li_insert cI cJ cS q_t q_t_row t_size t_row) → va_S A s.heap H locs → ∀ ls : Array Slot, lv_has ls 4 [(0, .ref q_t), (1, .int p_place), (2, .int p_p), (3, .int x3)] → W p l e (headSpec wsX2_insert rm_Li_insert).room s m args below meth c H locs 0 0 (MQ below (CQv D (w_Li_insert cI cJ cS q_t q_t_row o.1 o.2) A) args s 0 0 A) (F0 m 27 ls [])) := by
    intro n
    induction n with
    | zero => exact fun _ _ _ hM => (itr_0 hM).elim
    | succ n ih =>
      intro x3 t_size t_row hM H locs hP hD hS ls hl
      have hM : (Li_insert_b27 p_place p_p x3 t_size t_row).bind (sg (itr (Li_insert_s27 p_place p_p) n)) = some o := hM
      unfold Li_insert_b27 at hM
      refine lv_iload_n hx hb dX2_insert_27 rfl (lv_at hl 3 rfl) ?_
      refine lv_iload_n hx hb dX2_insert_28 rfl (lv_at hl 1 rfl) ?_
      refine lv_icmp_le (tgt := 52) hx hb dX2_insert_29 (by decide) (fun c4 => ?_) (fun c4 => ?_)
      · have hM := (s_if hM).1 c4
        exact J52 t_size t_row (s_ex hM) _ _ hP hD hS _ (lv_sub hl [0, 1, 2] rfl)
      · have hM := (s_if hM).2 c4
        refine lv_aload_n hx hb dX2_insert_32 rfl (lv_at hl 0 rfl) ?_
        refine va_get (ci := 2) (v := .ref q_t_row) (C := RX2) (T := TX2) (N := 2) hx hb hts iX2 hown hK.1 hP 0 rfl rfl 0 (Nat.le_of_ble_eq_true rfl) k1 (fun _ h9 => h9) rfl dX2_insert_33 ?_
        refine lv_iload_n hx hb dX2_insert_36 rfl (lv_at hl 3 rfl) ?_
        refine lv_aload_n hx hb dX2_insert_37 rfl (lv_at hl 0 rfl) ?_
        refine va_get (ci := 2) (v := .ref q_t_row) (C := RX2) (T := TX2) (N := 2) hx hb hts iX2 hown hK.1 hP 0 rfl rfl 0 (Nat.le_of_ble_eq_true rfl) k1 (fun _ h9 => h9) rfl dX2_insert_38 ?_
        refine lv_iload_n hx hb dX2_insert_41 rfl (lv_at hl 3 rfl) ?_
        refine lv_iconst (v := 1) hx hb dX2_insert_42 (by decide) ?_
        refine lv_isub hx hb dX2_insert_43 ?_
        obtain ⟨h7, hM⟩ := s_ck hM
        refine va_iald hx hb hK.1 hP 1 0 rfl rfl h7 dX2_insert_44 ?_
        refine lv_topi (fun y8 ey8 => ?_)
        have hM := s_lt hM y8 ey8
        obtain ⟨h9, hM⟩ := s_ck hM
        refine va_iast hx hb hK.1 hP hD hS 1 0 rfl rfl h9 dX2_insert_45 (fun H locs hP hD hS => ?_)
        have hP : va_P D vwCl (w_Li_insert cI cJ cS q_t q_t_row t_size (upd t_row x3.toNatClampNeg y8)) H := hP
        have hD : va_D A (w_Li_insert cI cJ cS q_t q_t_row t_size (upd t_row x3.toNatClampNeg y8)) := hD
        obtain ⟨y10, ey10⟩ : ∃ y : Int32, y = x3 + (-1) := ⟨_, rfl⟩
        have hM := s_lt hM y10 ey10
        refine lv_iinc (v := y10) (lv' := [(3, .int y10), (0, .ref q_t), (1, .int p_place), (2, .int p_p)]) hx hb dX2_insert_46 hl (k := 3) rfl (by rw [ey10]; rfl) (Nat.le_of_ble_eq_true rfl) rfl (fun ls hl => ?_)
        refine lv_goto (tgt := 27) hx hb dX2_insert_49 (by decide) ?_
        exact ih y10 t_size (upd t_row x3.toNatClampNeg y8) (s_jp hM) _ _ hP hD hS _ (lv_sub hl [1, 2, 3, 0] rfl)
  have J27 : ∀ (x3 : Int32) (t_size : Int32) (t_row : Nat → Int32), Li_insert_l27 p_place p_p x3 t_size t_row = some o → ∀ (H : Heap) (locs : List Loc), va_P D vwCl (w_Li_insert cI cJ cS q_t q_t_row t_size t_row) H → va_D A (w_Li_insert cI cJ cS q_t q_t_row t_size t_row) → va_S A s.heap H locs → ∀ ls : Array Slot, lv_has ls 4 [(0, .ref q_t), (1, .int p_place), (2, .int p_p), (3, .int x3)] → W p l e (headSpec wsX2_insert rm_Li_insert).room s m args below meth c H locs 0 0 (MQ below (CQv D (w_Li_insert cI cJ cS q_t q_t_row o.1 o.2) A) args s 0 0 A) (F0 m 27 ls []) := by
    intro x3 t_size t_row hM
    unfold Li_insert_l27 at hM
    obtain ⟨n0, hM⟩ := fin_some hM
    exact (L27 n0) x3 t_size t_row hM
  unfold Li_insert at hM
  refine lv_iload_n hx hb dX2_insert_0 rfl (lv_at hl 1 rfl) ?_
  refine lv_if_lt (tgt := 21) hx hb dX2_insert_1 (by decide) (fun c1 => ?_) (fun c1 => ?_)
  · have hM := (o_if hM).1 c1
    have hM := (Option.some.inj hM)
    subst hM
    exact rt_v hx hb hr hlocks hP hD hS dX2_insert_21
  · have hM := (o_if hM).2 c1
    refine lv_iload_n hx hb dX2_insert_4 rfl (lv_at hl 1 rfl) ?_
    refine lv_aload_n hx hb dX2_insert_5 rfl (lv_at hl 0 rfl) ?_
    refine va_get (ci := 2) (v := .int t_size) (C := RX2) (T := TX2) (N := 2) hx hb hts iX2 hown hK.1 hP 0 rfl rfl 1 (Nat.le_of_ble_eq_true rfl) k0 (fun _ h9 => h9) rfl dX2_insert_6 ?_
    refine lv_icmp_gt (tgt := 21) hx hb dX2_insert_9 (by decide) (fun c2 => ?_) (fun c2 => ?_)
    · have hM := (o_if hM).1 c2
      have hM := (Option.some.inj hM)
      subst hM
      exact rt_v hx hb hr hlocks hP hD hS dX2_insert_21
    · have hM := (o_if hM).2 c2
      refine lv_aload_n hx hb dX2_insert_12 rfl (lv_at hl 0 rfl) ?_
      refine va_get (ci := 2) (v := .int t_size) (C := RX2) (T := TX2) (N := 2) hx hb hts iX2 hown hK.1 hP 0 rfl rfl 1 (Nat.le_of_ble_eq_true rfl) k0 (fun _ h9 => h9) rfl dX2_insert_13 ?_
      refine lv_bipush (v := 7) hx hb dX2_insert_16 (by decide) ?_
      refine lv_icmp_lt (tgt := 22) hx hb dX2_insert_18 (by decide) (fun c3 => ?_) (fun c3 => ?_)
      · have hM := (o_if hM).1 c3
        refine lv_aload_n hx hb dX2_insert_22 rfl (lv_at hl 0 rfl) ?_
        refine va_get (ci := 2) (v := .int t_size) (C := RX2) (T := TX2) (N := 2) hx hb hts iX2 hown hK.1 hP 0 rfl rfl 1 (Nat.le_of_ble_eq_true rfl) k0 (fun _ h9 => h9) rfl dX2_insert_23 ?_
        refine lv_istore_n (lv' := [(3, .int t_size), (0, .ref q_t), (1, .int p_place), (2, .int p_p)]) hx hb dX2_insert_26 rfl hl (Nat.le_of_ble_eq_true rfl) rfl (fun ls hl => ?_)
        exact J27 t_size t_size t_row hM _ _ hP hD hS _ (lv_sub hl [1, 2, 3, 0] rfl)
      · have hM := (o_if hM).2 c3
        have hM := (Option.some.inj hM)
        subst hM
        exact rt_v hx hb hr hlocks hP hD hS dX2_insert_21
/-! ===== TurnQueue$Line.reverse ===== -/
abbrev w_Li_reverse (cI cJ cS : ClassId) (q_t : Nat) (q_t_row : Nat) (t_size : Int32) (t_row : Nat → Int32) : va_W := [(q_t, .inr (2, [.ref q_t_row, .int t_size])), (q_t_row, ar cI 7 t_row)]
abbrev rm_Li_reverse : Room := { frames := 0, cells := 0, slots := 0, locals := 0 }
noncomputable def Li_reverse_b2 (p_length : Int32) (x2 : Int32) (t_row : Nat → Int32) : Option ((Int32 × (Nat → Int32)) ⊕ ((Nat → Int32))) :=
  if (p_length / 2) ≤ x2 then
    some (.inr t_row)
  else
    if ck x2 7 = true then
      lt (t_row x2.toNatClampNeg) fun y3 =>
      if ck ((p_length - 1) - x2) 7 = true then
        lt (t_row ((p_length - 1) - x2).toNatClampNeg) fun y5 =>
        if ck x2 7 = true then
          if ck ((p_length - 1) - x2) 7 = true then
            lt (x2 + 1) fun y8 =>
            some (.inl (y8, upd (upd t_row x2.toNatClampNeg y5) ((p_length - 1) - x2).toNatClampNeg y3))
          else none
        else none
      else none
    else none
noncomputable def Li_reverse_s2 (p_length : Int32) : (Int32 × (Nat → Int32)) → Option ((Int32 × (Nat → Int32)) ⊕ ((Nat → Int32))) := fun x => Li_reverse_b2 p_length x.1 x.2
noncomputable def Li_reverse_l2 (p_length : Int32) (x2 : Int32) (t_row : Nat → Int32) : Option ((Nat → Int32)) := fin (Li_reverse_s2 p_length) (x2, t_row)
noncomputable def Li_reverse (p_length : Int32) (t_row : Nat → Int32) : Option ((Nat → Int32)) :=
  Li_reverse_l2 p_length 0 t_row
theorem Li_reverse_l2_eq (p_length : Int32) (x2 : Int32) (t_row : Nat → Int32) : Li_reverse_l2 p_length x2 t_row = (Li_reverse_b2 p_length x2 t_row).bind (sg (fin (Li_reverse_s2 p_length))) := by
  unfold Li_reverse_l2
  exact fin_eq _ _
theorem Li_reverse_l2_fd (p_length : Int32) (x2 : Int32) (t_row : Nat → Int32) : fin (Li_reverse_s2 p_length) (x2, t_row) = Li_reverse_l2 p_length x2 t_row := rfl
set_option maxRecDepth 100000 in
set_option maxHeartbeats 4000000 in
theorem c_Li_reverse (l : Launch) (D : va_G) (cI cJ cS : ClassId) (q_t q_t_row : Nat) (t_size : Int32) (t_row : Nat → Int32) (p_length : Int32) (o : (Nat → Int32)) (hM : Li_reverse p_length t_row = some o) : Cv l yX2_reverse wsX2_reverse rm_Li_reverse D cI cJ cS [.ref q_t, .int p_length] (w_Li_reverse cI cJ cS q_t q_t_row t_size t_row) (w_Li_reverse cI cJ cS q_t q_t_row t_size o) := by
  refine Cv.of (cc := cX2_reverse) (maxL := 4) (ret := none) (by decide) rfl (Nat.le_of_ble_eq_true rfl) ?_
  intro p e s m args below meth c A ls hE
  obtain ⟨hx, hb, hr, hml, hown, hts, hlocks, hK, hA, hP, hD, hS, hl⟩ := hE
  have hown : s.vm.findClass RX2 = some m.cls := hown
  have hl : lv_has ls 4 [(0, .ref q_t), (1, .int p_length)] := hl
  have iX2 : ∀ w ∈ u_ws RX2 TX2 2, w ∈ wsX2_reverse := by decide +kernel
  have k0 := hts (.fieldLink RX2 9 "TurnQueue$Line" "row" "[I") (by decide +kernel)
  have L2 : ∀ n : Nat, (∀ (x2 : Int32) (t_row : Nat → Int32), itr (Li_reverse_s2 p_length) n (x2, t_row) = some o → ∀ (H : Heap) (locs : List Loc), va_P D vwCl (w_Li_reverse cI cJ cS q_t q_t_row t_size t_row) H → va_D A (w_Li_reverse cI cJ cS q_t q_t_row t_size t_row) → va_S A s.heap H locs → ∀ ls : Array Slot, lv_has ls 4 [(0, .ref q_t), (1, .int p_length), (2, .int x2)] → W p l e (headSpec wsX2_reverse rm_Li_reverse).room s m args below meth c H locs 0 0 (MQ below (CQv D (w_Li_reverse cI cJ cS q_t q_t_row t_size o) A) args s 0 0 A) (F0 m 2 ls [])) := by
    intro n
    induction n with
    | zero => exact fun _ _ hM => (itr_0 hM).elim
    | succ n ih =>
      intro x2 t_row hM H locs hP hD hS ls hl
      have hM : (Li_reverse_b2 p_length x2 t_row).bind (sg (itr (Li_reverse_s2 p_length) n)) = some o := hM
      unfold Li_reverse_b2 at hM
      refine lv_iload_n hx hb dX2_reverse_2 rfl (lv_at hl 2 rfl) ?_
      refine lv_iload_n hx hb dX2_reverse_3 rfl (lv_at hl 1 rfl) ?_
      refine lv_iconst (v := 2) hx hb dX2_reverse_4 (by decide) ?_
      refine lv_idiv hx hb dX2_reverse_5 (by decide) ?_
      refine lv_icmp_ge (tgt := 49) hx hb dX2_reverse_6 (by decide) (fun c1 => ?_) (fun c1 => ?_)
      · have hM := (s_if hM).1 c1
        have hM := (Option.some.inj (s_rt hM))
        subst hM
        exact rt_v hx hb hr hlocks hP hD hS dX2_reverse_49
      · have hM := (s_if hM).2 c1
        refine lv_aload_n hx hb dX2_reverse_9 rfl (lv_at hl 0 rfl) ?_
        refine va_get (ci := 2) (v := .ref q_t_row) (C := RX2) (T := TX2) (N := 2) hx hb hts iX2 hown hK.1 hP 0 rfl rfl 0 (Nat.le_of_ble_eq_true rfl) k0 (fun _ h9 => h9) rfl dX2_reverse_10 ?_
        refine lv_iload_n hx hb dX2_reverse_13 rfl (lv_at hl 2 rfl) ?_
        obtain ⟨h2, hM⟩ := s_ck hM
        refine va_iald hx hb hK.1 hP 1 0 rfl rfl h2 dX2_reverse_14 ?_
        refine lv_topi (fun y3 ey3 => ?_)
        have hM := s_lt hM y3 ey3
        refine lv_istore_n (lv' := [(3, .int y3), (0, .ref q_t), (1, .int p_length), (2, .int x2)]) hx hb dX2_reverse_15 rfl hl (Nat.le_of_ble_eq_true rfl) rfl (fun ls hl => ?_)
        refine lv_aload_n hx hb dX2_reverse_16 rfl (lv_at hl 1 rfl) ?_
        refine va_get (ci := 2) (v := .ref q_t_row) (C := RX2) (T := TX2) (N := 2) hx hb hts iX2 hown hK.1 hP 0 rfl rfl 0 (Nat.le_of_ble_eq_true rfl) k0 (fun _ h9 => h9) rfl dX2_reverse_17 ?_
        refine lv_iload_n hx hb dX2_reverse_20 rfl (lv_at hl 3 rfl) ?_
        refine lv_aload_n hx hb dX2_reverse_21 rfl (lv_at hl 1 rfl) ?_
        refine va_get (ci := 2) (v := .ref q_t_row) (C := RX2) (T := TX2) (N := 2) hx hb hts iX2 hown hK.1 hP 0 rfl rfl 0 (Nat.le_of_ble_eq_true rfl) k0 (fun _ h9 => h9) rfl dX2_reverse_22 ?_
        refine lv_iload_n hx hb dX2_reverse_25 rfl (lv_at hl 2 rfl) ?_
        refine lv_iconst (v := 1) hx hb dX2_reverse_26 (by decide) ?_
        refine lv_isub hx hb dX2_reverse_27 ?_
        refine lv_iload_n hx hb dX2_reverse_28 rfl (lv_at hl 3 rfl) ?_
        refine lv_isub hx hb dX2_reverse_29 ?_
        obtain ⟨h4, hM⟩ := s_ck hM
        refine va_iald hx hb hK.1 hP 1 0 rfl rfl h4 dX2_reverse_30 ?_
        refine lv_topi (fun y5 ey5 => ?_)
        have hM := s_lt hM y5 ey5
        obtain ⟨h6, hM⟩ := s_ck hM
        refine va_iast hx hb hK.1 hP hD hS 1 0 rfl rfl h6 dX2_reverse_31 (fun H locs hP hD hS => ?_)
        have hP : va_P D vwCl (w_Li_reverse cI cJ cS q_t q_t_row t_size (upd t_row x2.toNatClampNeg y5)) H := hP
        have hD : va_D A (w_Li_reverse cI cJ cS q_t q_t_row t_size (upd t_row x2.toNatClampNeg y5)) := hD
        refine lv_aload_n hx hb dX2_reverse_32 rfl (lv_at hl 1 rfl) ?_
        refine va_get (ci := 2) (v := .ref q_t_row) (C := RX2) (T := TX2) (N := 2) hx hb hts iX2 hown hK.1 hP 0 rfl rfl 0 (Nat.le_of_ble_eq_true rfl) k0 (fun _ h9 => h9) rfl dX2_reverse_33 ?_
        refine lv_iload_n hx hb dX2_reverse_36 rfl (lv_at hl 2 rfl) ?_
        refine lv_iconst (v := 1) hx hb dX2_reverse_37 (by decide) ?_
        refine lv_isub hx hb dX2_reverse_38 ?_
        refine lv_iload_n hx hb dX2_reverse_39 rfl (lv_at hl 3 rfl) ?_
        refine lv_isub hx hb dX2_reverse_40 ?_
        refine lv_iload_n hx hb dX2_reverse_41 rfl (lv_at hl 0 rfl) ?_
        obtain ⟨h7, hM⟩ := s_ck hM
        refine va_iast hx hb hK.1 hP hD hS 1 0 rfl rfl h7 dX2_reverse_42 (fun H locs hP hD hS => ?_)
        have hP : va_P D vwCl (w_Li_reverse cI cJ cS q_t q_t_row t_size (upd (upd t_row x2.toNatClampNeg y5) ((p_length - 1) - x2).toNatClampNeg y3)) H := hP
        have hD : va_D A (w_Li_reverse cI cJ cS q_t q_t_row t_size (upd (upd t_row x2.toNatClampNeg y5) ((p_length - 1) - x2).toNatClampNeg y3)) := hD
        obtain ⟨y8, ey8⟩ : ∃ y : Int32, y = x2 + 1 := ⟨_, rfl⟩
        have hM := s_lt hM y8 ey8
        refine lv_iinc (v := y8) (lv' := [(2, .int y8), (3, .int y3), (0, .ref q_t), (1, .int p_length)]) hx hb dX2_reverse_43 hl (k := 3) rfl (by rw [ey8]; rfl) (Nat.le_of_ble_eq_true rfl) rfl (fun ls hl => ?_)
        refine lv_goto (tgt := 2) hx hb dX2_reverse_46 (by decide) ?_
        exact ih y8 (upd (upd t_row x2.toNatClampNeg y5) ((p_length - 1) - x2).toNatClampNeg y3) (s_jp hM) _ _ hP hD hS _ (lv_sub hl [2, 3, 0] rfl)
  have J2 : ∀ (x2 : Int32) (t_row : Nat → Int32), Li_reverse_l2 p_length x2 t_row = some o → ∀ (H : Heap) (locs : List Loc), va_P D vwCl (w_Li_reverse cI cJ cS q_t q_t_row t_size t_row) H → va_D A (w_Li_reverse cI cJ cS q_t q_t_row t_size t_row) → va_S A s.heap H locs → ∀ ls : Array Slot, lv_has ls 4 [(0, .ref q_t), (1, .int p_length), (2, .int x2)] → W p l e (headSpec wsX2_reverse rm_Li_reverse).room s m args below meth c H locs 0 0 (MQ below (CQv D (w_Li_reverse cI cJ cS q_t q_t_row t_size o) A) args s 0 0 A) (F0 m 2 ls []) := by
    intro x2 t_row hM
    unfold Li_reverse_l2 at hM
    obtain ⟨n0, hM⟩ := fin_some hM
    exact (L2 n0) x2 t_row hM
  unfold Li_reverse at hM
  refine lv_iconst (v := 0) hx hb dX2_reverse_0 (by decide) ?_
  refine lv_istore_n (lv' := [(2, .int 0), (0, .ref q_t), (1, .int p_length)]) hx hb dX2_reverse_1 rfl hl (Nat.le_of_ble_eq_true rfl) rfl (fun ls hl => ?_)
  exact J2 0 t_row hM _ _ hP hD hS _ (lv_sub hl [1, 2, 0] rfl)
/-! ===== TurnQueue$Line.turn ===== -/
abbrev w_Li_turn (cI cJ cS : ClassId) (q_t : Nat) (q_t_row : Nat) (t_size : Int32) (t_row : Nat → Int32) : va_W := [(q_t, .inr (2, [.ref q_t_row, .int t_size])), (q_t_row, ar cI 7 t_row)]
abbrev rm_Li_turn : Room := { frames := 1, cells := 0, slots := 0, locals := 23 }
noncomputable def Li_turn (p_law : Int32) (t_size : Int32) (t_row : Nat → Int32) : Option (Int32 × (Nat → Int32)) :=
  if 2 ≤ t_size then
    if p_law = 2 then
      (Li_remove (t_size - 1) t_size t_row).bind fun y8 =>
      (Li_insert 0 y8.1 y8.2.1 y8.2.2).bind fun y10 =>
      some (y10.1, y10.2)
    else
      if p_law = 1 then
        (Li_reverse (t_size / 2) t_row).bind fun y6 =>
        some (t_size, y6)
      else
        (Li_reverse t_size t_row).bind fun y4 =>
        some (t_size, y4)
  else
    some (t_size, t_row)
set_option maxRecDepth 100000 in
set_option maxHeartbeats 4000000 in
theorem c_Li_turn (l : Launch) (D : va_G) (cI cJ cS : ClassId) (q_t q_t_row : Nat) (t_size : Int32) (t_row : Nat → Int32) (p_law : Int32) (o : Int32 × (Nat → Int32)) (hM : Li_turn p_law t_size t_row = some o) : Cv l yX2_turn wsX2_turn rm_Li_turn D cI cJ cS [.ref q_t, .int p_law] (w_Li_turn cI cJ cS q_t q_t_row t_size t_row) (w_Li_turn cI cJ cS q_t q_t_row o.1 o.2) := by
  refine Cv.of (cc := cX2_turn) (maxL := 2) (ret := none) (by decide) rfl (Nat.le_of_ble_eq_true rfl) ?_
  intro p e s m args below meth c A ls hE
  obtain ⟨hx, hb, hr, hml, hown, hts, hlocks, hK, hA, hP, hD, hS, hl⟩ := hE
  have hown : s.vm.findClass RX2 = some m.cls := hown
  have hl : lv_has ls 2 [(0, .ref q_t), (1, .int p_law)] := hl
  have iX2 : ∀ w ∈ u_ws RX2 TX2 2, w ∈ wsX2_turn := by decide +kernel
  have k0 := hts (.fieldLink RX2 15 "TurnQueue$Line" "size" "I") (by decide +kernel)
  unfold Li_turn at hM
  refine lv_aload_n hx hb dX2_turn_0 rfl (lv_at hl 0 rfl) ?_
  refine va_get (ci := 2) (v := .int t_size) (C := RX2) (T := TX2) (N := 2) hx hb hts iX2 hown hK.1 hP 0 rfl rfl 1 (Nat.le_of_ble_eq_true rfl) k0 (fun _ h9 => h9) rfl dX2_turn_1 ?_
  refine lv_iconst (v := 2) hx hb dX2_turn_4 (by decide) ?_
  refine lv_icmp_ge (tgt := 9) hx hb dX2_turn_5 (by decide) (fun c1 => ?_) (fun c1 => ?_)
  · have hM := (o_if hM).1 c1
    refine lv_iload_n hx hb dX2_turn_9 rfl (lv_at hl 1 rfl) ?_
    refine lv_iconst (v := 2) hx hb dX2_turn_10 (by decide) ?_
    refine lv_icmp_ne (tgt := 32) hx hb dX2_turn_11 (by decide) (fun c2 => ?_) (fun c2 => ?_)
    · have hM := (o_if hM).2 c2
      refine lv_aload_n hx hb dX2_turn_32 rfl (lv_at hl 0 rfl) ?_
      refine lv_iload_n hx hb dX2_turn_33 rfl (lv_at hl 1 rfl) ?_
      refine lv_iconst (v := 1) hx hb dX2_turn_34 (by decide) ?_
      refine lv_icmp_ne (tgt := 47) hx hb dX2_turn_35 (by decide) (fun c3 => ?_) (fun c3 => ?_)
      · have hM := (o_if hM).2 c3
        refine lv_aload_n hx hb dX2_turn_47 rfl (lv_at hl 0 rfl) ?_
        refine va_get (ci := 2) (v := .int t_size) (C := RX2) (T := TX2) (N := 2) hx hb hts iX2 hown hK.1 hP 0 rfl rfl 1 (Nat.le_of_ble_eq_true rfl) k0 (fun _ h9 => h9) rfl dX2_turn_48 ?_
        obtain ⟨y4, h5, hM⟩ := o_bd hM
        refine af_v (ws2 := (w_Li_turn cI cJ cS q_t q_t_row t_size y4)) (va_runV (As := [.int t_size]) (rest := []) ⟨hx, hb, hml, hown, hts⟩ (c_Li_reverse l D cI cJ cS q_t q_t_row t_size t_row t_size y4 h5 _) (cwV 1 hts gX2_turn_X2_reverse rfl rfl rfl (by decide +kernel) ⟨(Nat.le_of_ble_eq_true rfl), (Nat.le_of_ble_eq_true rfl)⟩) (pre_V hK hP hD [0, 1] rfl rfl rfl rfl) rfl rfl hl.1 rfl (lv_room (Nat.le_of_ble_eq_true rfl)) dX2_turn_51 ⟨Nat.zero_le _, Nat.zero_le _⟩) hP hD hS hA [0, 1] [] [0, 1] rfl rfl rfl (by decide) rfl rfl (fun H locs hP hD hS => ?_)
        have hM := (Option.some.inj hM)
        subst hM
        exact rt_v hx hb hr hlocks hP hD hS dX2_turn_54
      · have hM := (o_if hM).1 c3
        refine lv_aload_n hx hb dX2_turn_38 rfl (lv_at hl 0 rfl) ?_
        refine va_get (ci := 2) (v := .int t_size) (C := RX2) (T := TX2) (N := 2) hx hb hts iX2 hown hK.1 hP 0 rfl rfl 1 (Nat.le_of_ble_eq_true rfl) k0 (fun _ h9 => h9) rfl dX2_turn_39 ?_
        refine lv_iconst (v := 2) hx hb dX2_turn_42 (by decide) ?_
        refine lv_idiv hx hb dX2_turn_43 (by decide) ?_
        refine lv_goto (tgt := 51) hx hb dX2_turn_44 (by decide) ?_
        obtain ⟨y6, h7, hM⟩ := o_bd hM
        refine af_v (ws2 := (w_Li_turn cI cJ cS q_t q_t_row t_size y6)) (va_runV (As := [.int (t_size / 2)]) (rest := []) ⟨hx, hb, hml, hown, hts⟩ (c_Li_reverse l D cI cJ cS q_t q_t_row t_size t_row (t_size / 2) y6 h7 _) (cwV 1 hts gX2_turn_X2_reverse rfl rfl rfl (by decide +kernel) ⟨(Nat.le_of_ble_eq_true rfl), (Nat.le_of_ble_eq_true rfl)⟩) (pre_V hK hP hD [0, 1] rfl rfl rfl rfl) rfl rfl hl.1 rfl (lv_room (Nat.le_of_ble_eq_true rfl)) dX2_turn_51 ⟨Nat.zero_le _, Nat.zero_le _⟩) hP hD hS hA [0, 1] [] [0, 1] rfl rfl rfl (by decide) rfl rfl (fun H locs hP hD hS => ?_)
        have hM := (Option.some.inj hM)
        subst hM
        exact rt_v hx hb hr hlocks hP hD hS dX2_turn_54
    · have hM := (o_if hM).1 c2
      refine lv_aload_n hx hb dX2_turn_14 rfl (lv_at hl 0 rfl) ?_
      refine lv_iconst (v := 0) hx hb dX2_turn_15 (by decide) ?_
      refine lv_aload_n hx hb dX2_turn_16 rfl (lv_at hl 0 rfl) ?_
      refine lv_aload_n hx hb dX2_turn_17 rfl (lv_at hl 0 rfl) ?_
      refine va_get (ci := 2) (v := .int t_size) (C := RX2) (T := TX2) (N := 2) hx hb hts iX2 hown hK.1 hP 0 rfl rfl 1 (Nat.le_of_ble_eq_true rfl) k0 (fun _ h9 => h9) rfl dX2_turn_18 ?_
      refine lv_iconst (v := 1) hx hb dX2_turn_21 (by decide) ?_
      refine lv_isub hx hb dX2_turn_22 ?_
      obtain ⟨y8, h9, hM⟩ := o_bd hM
      refine af_i (ws2 := (w_Li_turn cI cJ cS q_t q_t_row y8.2.1 y8.2.2)) (va_runV (As := [.int (t_size - 1)]) (rest := [.int 0, .ref q_t]) ⟨hx, hb, hml, hown, hts⟩ (c_Li_remove l D cI cJ cS q_t q_t_row t_size t_row (t_size - 1) y8 h9 _) (cwV 1 hts gX2_turn_X2_remove rfl rfl rfl (by decide +kernel) ⟨(Nat.le_of_ble_eq_true rfl), (Nat.le_of_ble_eq_true rfl)⟩) (pre_V hK hP hD [0, 1] rfl rfl rfl rfl) rfl rfl hl.1 rfl (lv_room (Nat.le_of_ble_eq_true rfl)) dX2_turn_23 ⟨Nat.zero_le _, Nat.zero_le _⟩) hP hD hS hA [0, 1] [] [0, 1] rfl rfl rfl (by decide) rfl rfl (fun H locs hP hD hS => ?_)
      obtain ⟨y10, h11, hM⟩ := o_bd hM
      refine af_v (ws2 := (w_Li_turn cI cJ cS q_t q_t_row y10.1 y10.2)) (va_runV (As := [.int 0, .int y8.1]) (rest := []) ⟨hx, hb, hml, hown, hts⟩ (c_Li_insert l D cI cJ cS q_t q_t_row y8.2.1 y8.2.2 0 y8.1 y10 h11 _) (cwV 2 hts gX2_turn_X2_insert rfl rfl rfl (by decide +kernel) ⟨(Nat.le_of_ble_eq_true rfl), (Nat.le_of_ble_eq_true rfl)⟩) (pre_V hK hP hD [0, 1] rfl rfl rfl rfl) rfl rfl hl.1 rfl (lv_room (Nat.le_of_ble_eq_true rfl)) dX2_turn_26 ⟨Nat.zero_le _, Nat.zero_le _⟩) hP hD hS hA [0, 1] [] [0, 1] rfl rfl rfl (by decide) rfl rfl (fun H locs hP hD hS => ?_)
      refine lv_goto (tgt := 54) hx hb dX2_turn_29 (by decide) ?_
      have hM := (Option.some.inj hM)
      subst hM
      exact rt_v hx hb hr hlocks hP hD hS dX2_turn_54
  · have hM := (o_if hM).2 c1
    have hM := (Option.some.inj hM)
    subst hM
    exact rt_v hx hb hr hlocks hP hD hS dX2_turn_8
/-! ===== TurnQueue$Line.at ===== -/
abbrev w_Li_at (cI cJ cS : ClassId) (q_t : Nat) (q_t_row : Nat) (t_size : Int32) (t_row : Nat → Int32) : va_W := [(q_t, .inr (2, [.ref q_t_row, .int t_size])), (q_t_row, ar cI 7 t_row)]
abbrev rm_Li_at : Room := { frames := 0, cells := 0, slots := 0, locals := 0 }
noncomputable def Li_at (p_place : Int32) (t_size : Int32) (t_row : Nat → Int32) : Option (Int32) :=
  if p_place < 0 then
    some (-9)
  else
    if t_size ≤ p_place then
      some (-9)
    else
      if ck p_place 7 = true then
        some (t_row p_place.toNatClampNeg)
      else none
set_option maxRecDepth 100000 in
set_option maxHeartbeats 4000000 in
theorem c_Li_at (l : Launch) (D : va_G) (cI cJ cS : ClassId) (q_t q_t_row : Nat) (t_size : Int32) (t_row : Nat → Int32) (p_place : Int32) (o : Int32) (hM : Li_at p_place t_size t_row = some o) : Ci l yX2_at wsX2_at rm_Li_at D cI cJ cS [.ref q_t, .int p_place] (w_Li_at cI cJ cS q_t q_t_row t_size t_row) (w_Li_at cI cJ cS q_t q_t_row t_size t_row) o := by
  refine Ci.of (cc := cX2_at) (maxL := 2) (ret := (some .int)) (by decide) rfl (Nat.le_of_ble_eq_true rfl) ?_
  intro p e s m args below meth c A ls hE
  obtain ⟨hx, hb, hr, hml, hown, hts, hlocks, hK, hA, hP, hD, hS, hl⟩ := hE
  have hown : s.vm.findClass RX2 = some m.cls := hown
  have hl : lv_has ls 2 [(0, .ref q_t), (1, .int p_place)] := hl
  have iX2 : ∀ w ∈ u_ws RX2 TX2 2, w ∈ wsX2_at := by decide +kernel
  have k0 := hts (.fieldLink RX2 15 "TurnQueue$Line" "size" "I") (by decide +kernel)
  have k1 := hts (.fieldLink RX2 9 "TurnQueue$Line" "row" "[I") (by decide +kernel)
  unfold Li_at at hM
  refine lv_iload_n hx hb dX2_at_0 rfl (lv_at hl 1 rfl) ?_
  refine lv_if_lt (tgt := 21) hx hb dX2_at_1 (by decide) (fun c1 => ?_) (fun c1 => ?_)
  · have hM := (o_if hM).1 c1
    refine lv_bipush (v := (-9)) hx hb dX2_at_21 (by decide) ?_
    have hM := (Option.some.inj hM)
    subst hM
    exact rt_i hx hb hr hlocks hP hD hS dX2_at_23
  · have hM := (o_if hM).2 c1
    refine lv_iload_n hx hb dX2_at_4 rfl (lv_at hl 1 rfl) ?_
    refine lv_aload_n hx hb dX2_at_5 rfl (lv_at hl 0 rfl) ?_
    refine va_get (ci := 2) (v := .int t_size) (C := RX2) (T := TX2) (N := 2) hx hb hts iX2 hown hK.1 hP 0 rfl rfl 1 (Nat.le_of_ble_eq_true rfl) k0 (fun _ h9 => h9) rfl dX2_at_6 ?_
    refine lv_icmp_ge (tgt := 21) hx hb dX2_at_9 (by decide) (fun c2 => ?_) (fun c2 => ?_)
    · have hM := (o_if hM).1 c2
      refine lv_bipush (v := (-9)) hx hb dX2_at_21 (by decide) ?_
      have hM := (Option.some.inj hM)
      subst hM
      exact rt_i hx hb hr hlocks hP hD hS dX2_at_23
    · have hM := (o_if hM).2 c2
      refine lv_aload_n hx hb dX2_at_12 rfl (lv_at hl 0 rfl) ?_
      refine va_get (ci := 2) (v := .ref q_t_row) (C := RX2) (T := TX2) (N := 2) hx hb hts iX2 hown hK.1 hP 0 rfl rfl 0 (Nat.le_of_ble_eq_true rfl) k1 (fun _ h9 => h9) rfl dX2_at_13 ?_
      refine lv_iload_n hx hb dX2_at_16 rfl (lv_at hl 1 rfl) ?_
      obtain ⟨h3, hM⟩ := o_ck hM
      refine va_iald hx hb hK.1 hP 1 0 rfl rfl h3 dX2_at_17 ?_
      refine lv_goto (tgt := 23) hx hb dX2_at_18 (by decide) ?_
      have hM := (Option.some.inj hM)
      subst hM
      exact rt_i hx hb hr hlocks hP hD hS dX2_at_23

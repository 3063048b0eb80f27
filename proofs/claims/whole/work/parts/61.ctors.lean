/-! ===== new TurnQueue$Line ===== -/
def n_Li_init (cI cJ cS : ClassId) (h0 : Nat) : va_W → Prop := fun w => ∃ q1 : Nat, w = [(h0, .inr (2, [.ref q1, .int 0])), (q1, ar cI 7 (fun _ => 0))]
abbrev rm_Li_init : Room := { frames := 1, cells := 1, slots := 7, locals := 12 }
set_option maxRecDepth 100000 in
set_option maxHeartbeats 4000000 in
theorem c_Li_init (l : Launch) (D : va_G) (cI cJ cS : ClassId) (h0 : Nat) : Cn l yX2_init wsX2_init rm_Li_init D cI cJ cS [.ref h0] [(h0, .inr (2, [.null, .int 0]))] (n_Li_init cI cJ cS h0) 1 7 := by
  refine Cn.of (cc := cX2_init) (maxL := 1) (by decide) rfl (Nat.le_of_ble_eq_true rfl) ?_
  intro p e s m args below meth c A ls hE
  obtain ⟨hx, hb, hr, hml, hown, hts, hlocks, hK, hA, hP, hD, hS, hl, hin, hO⟩ := hE
  have hown : s.vm.findClass RX2 = some m.cls := hown
  have hin : meth.name = "<init>" := hin
  have hl : lv_has ls 1 [(0, .ref h0)] := hl
  have iX2 : ∀ w ∈ u_ws RX2 TX2 2, w ∈ wsX2_init := by decide +kernel
  have k0 := hts (.methodLink RX2 3 objectInit) (by decide +kernel)
  have k1 := hts (.instanceMethod objectInit) (by decide +kernel)
  have k2 := hts (.arrayClass .int) (by decide +kernel)
  have k3 := hts (.fieldLink RX2 9 "TurnQueue$Line" "row" "[I") (by decide +kernel)
  have k4 := hts (.fieldLink RX2 15 "TurnQueue$Line" "size" "I") (by decide +kernel)
  refine lv_aload_n hx hb dX2_init_0 rfl (lv_at hl 0 rfl) ?_
  refine W.objInit hx hb hown k0 k1 (hts _ (List.mem_of_getElem? (i := 3) rfl)) rfl (by rw [hml]; exact hl.1) rfl dX2_init_1 (Nat.le_of_ble_eq_true rfl) (Nat.le_of_ble_eq_true rfl) ?_
  refine W.eq (g2 := F0 m 4 ls []) rfl ?_
  refine lv_aload_n hx hb dX2_init_4 rfl (lv_at hl 0 rfl) ?_
  refine lv_bipush (v := 7) hx hb dX2_init_5 (by decide) ?_
  refine va_newa (atype := .int) (ty := .int) (N' := 7) (a0 := (7, .inl (fun _ => 0))) hx hb k2 rfl hK.1 hP hD hS hA (fun _ => rfl) (by decide) (by decide) (by decide) (Nat.le_of_ble_eq_true rfl) (Nat.le_of_ble_eq_true rfl) dX2_init_7 (fun q1 cA H hKx hP hD hS => ?_)
  have ecA := kI hKx
  subst ecA
  have hP : va_P D vwCl [(h0, .inr (2, [.null, .int 0])), (q1, ar cI 7 (fun _ => 0))] H := hP
  have hD : va_D A [(h0, .inr (2, [.null, .int 0])), (q1, ar cI 7 (fun _ => 0))] := hD
  refine va_putF (ci := 2) (v := .ref q1) (ty := tyX2 0) (C := RX2) (T := TX2) (N := 2) hx hb hts iX2 tyX2 tyX2_ok nmX2 hown hK.1 hP hD hS 0 rfl rfl 0 (Nat.le_of_ble_eq_true rfl) k3 (fun _ h9 => h9) rfl hin rfl (tyX2_ok 0 (Nat.le_of_ble_eq_true rfl)) rfl rfl (Nat.le_of_ble_eq_true rfl) dX2_init_9 (fun H locs hP hD hS => ?_)
  have hP : va_P D vwCl [(h0, .inr (2, [.ref q1, .int 0])), (q1, ar cI 7 (fun _ => 0))] H := hP
  have hD : va_D A [(h0, .inr (2, [.ref q1, .int 0])), (q1, ar cI 7 (fun _ => 0))] := hD
  refine lv_aload_n hx hb dX2_init_12 rfl (lv_at hl 0 rfl) ?_
  refine lv_iconst (v := 0) hx hb dX2_init_13 (by decide) ?_
  refine va_put (ci := 2) (v := .int 0) (ty := tyX2 1) (C := RX2) (T := TX2) (N := 2) hx hb hts iX2 tyX2 tyX2_ok nmX2 hown hK.1 hP hD hS 0 rfl rfl 1 (Nat.le_of_ble_eq_true rfl) k4 (fun _ h9 => h9) rfl (tyX2_ok 1 (Nat.le_of_ble_eq_true rfl)) rfl rfl (Nat.le_of_ble_eq_true rfl) dX2_init_14 (fun H locs hP hD hS => ?_)
  have hP : va_P D vwCl [(h0, .inr (2, [.ref q1, .int 0])), (q1, ar cI 7 (fun _ => 0))] H := hP
  have hD : va_D A [(h0, .inr (2, [.ref q1, .int 0])), (q1, ar cI 7 (fun _ => 0))] := hD
  refine W.widen (k := 1) (n := 7) (Nat.le_of_ble_eq_true rfl) (Nat.le_of_ble_eq_true rfl) ?_
  exact rt_n hx hb hr hlocks hP hD hS ⟨q1, rfl⟩ dX2_init_17
/-! ===== new TurnQueue$Plan ===== -/
def n_Pl_init (cI cJ cS : ClassId) (h0 : Nat) : va_W → Prop := fun w => ∃ q1 q2 q3 q4 : Nat, w = [(h0, .inr (3, [.int 0, .int 0, .long 0, .ref q1, .ref q2, .ref q3, .ref q4])), (q1, ar cI 7 (fun _ => 0)), (q2, ar cI 7 (fun _ => 0)), (q3, ar cI 7 (fun _ => 0)), (q4, ar cI 7 (fun _ => 0))]
abbrev rm_Pl_init : Room := { frames := 1, cells := 4, slots := 28, locals := 12 }
set_option maxRecDepth 100000 in
set_option maxHeartbeats 4000000 in
theorem c_Pl_init (l : Launch) (D : va_G) (cI cJ cS : ClassId) (h0 : Nat) : Cn l yX3_init wsX3_init rm_Pl_init D cI cJ cS [.ref h0] [(h0, .inr (3, [.int 0, .int 0, .long 0, .null, .null, .null, .null]))] (n_Pl_init cI cJ cS h0) 4 28 := by
  refine Cn.of (cc := cX3_init) (maxL := 1) (by decide) rfl (Nat.le_of_ble_eq_true rfl) ?_
  intro p e s m args below meth c A ls hE
  obtain ⟨hx, hb, hr, hml, hown, hts, hlocks, hK, hA, hP, hD, hS, hl, hin, hO⟩ := hE
  have hown : s.vm.findClass RX3 = some m.cls := hown
  have hin : meth.name = "<init>" := hin
  have hl : lv_has ls 1 [(0, .ref h0)] := hl
  have iX3 : ∀ w ∈ u_ws RX3 TX3 7, w ∈ wsX3_init := by decide +kernel
  have k0 := hts (.methodLink RX3 3 objectInit) (by decide +kernel)
  have k1 := hts (.instanceMethod objectInit) (by decide +kernel)
  have k2 := hts (.fieldLink RX3 9 "TurnQueue$Plan" "law" "I") (by decide +kernel)
  have k3 := hts (.fieldLink RX3 15 "TurnQueue$Plan" "count" "I") (by decide +kernel)
  have k4 := hts (.fieldLink RX3 18 "TurnQueue$Plan" "bells" "J") (by decide +kernel)
  have k5 := hts (.arrayClass .int) (by decide +kernel)
  have k6 := hts (.fieldLink RX3 22 "TurnQueue$Plan" "kinds" "[I") (by decide +kernel)
  have k7 := hts (.fieldLink RX3 26 "TurnQueue$Plan" "comes" "[I") (by decide +kernel)
  have k8 := hts (.fieldLink RX3 29 "TurnQueue$Plan" "wants" "[I") (by decide +kernel)
  have k9 := hts (.fieldLink RX3 32 "TurnQueue$Plan" "outs" "[I") (by decide +kernel)
  refine lv_aload_n hx hb dX3_init_0 rfl (lv_at hl 0 rfl) ?_
  refine W.objInit hx hb hown k0 k1 (hts _ (List.mem_of_getElem? (i := 3) rfl)) rfl (by rw [hml]; exact hl.1) rfl dX3_init_1 (Nat.le_of_ble_eq_true rfl) (Nat.le_of_ble_eq_true rfl) ?_
  refine W.eq (g2 := F0 m 4 ls []) rfl ?_
  refine lv_aload_n hx hb dX3_init_4 rfl (lv_at hl 0 rfl) ?_
  refine lv_iconst (v := 0) hx hb dX3_init_5 (by decide) ?_
  refine va_put (ci := 3) (v := .int 0) (ty := tyX3 0) (C := RX3) (T := TX3) (N := 7) hx hb hts iX3 tyX3 tyX3_ok nmX3 hown hK.1 hP hD hS 0 rfl rfl 0 (Nat.le_of_ble_eq_true rfl) k2 (fun _ h9 => h9) rfl (tyX3_ok 0 (Nat.le_of_ble_eq_true rfl)) rfl rfl (Nat.le_of_ble_eq_true rfl) dX3_init_6 (fun H locs hP hD hS => ?_)
  have hP : va_P D vwCl [(h0, .inr (3, [.int 0, .int 0, .long 0, .null, .null, .null, .null]))] H := hP
  have hD : va_D A [(h0, .inr (3, [.int 0, .int 0, .long 0, .null, .null, .null, .null]))] := hD
  refine lv_aload_n hx hb dX3_init_9 rfl (lv_at hl 0 rfl) ?_
  refine lv_iconst (v := 0) hx hb dX3_init_10 (by decide) ?_
  refine va_put (ci := 3) (v := .int 0) (ty := tyX3 1) (C := RX3) (T := TX3) (N := 7) hx hb hts iX3 tyX3 tyX3_ok nmX3 hown hK.1 hP hD hS 0 rfl rfl 1 (Nat.le_of_ble_eq_true rfl) k3 (fun _ h9 => h9) rfl (tyX3_ok 1 (Nat.le_of_ble_eq_true rfl)) rfl rfl (Nat.le_of_ble_eq_true rfl) dX3_init_11 (fun H locs hP hD hS => ?_)
  have hP : va_P D vwCl [(h0, .inr (3, [.int 0, .int 0, .long 0, .null, .null, .null, .null]))] H := hP
  have hD : va_D A [(h0, .inr (3, [.int 0, .int 0, .long 0, .null, .null, .null, .null]))] := hD
  refine lv_aload_n hx hb dX3_init_14 rfl (lv_at hl 0 rfl) ?_
  refine lv_lconst (v := 0) hx hb dX3_init_15 (by decide) ?_
  refine va_put (ci := 3) (v := .long 0) (ty := tyX3 2) (C := RX3) (T := TX3) (N := 7) hx hb hts iX3 tyX3 tyX3_ok nmX3 hown hK.1 hP hD hS 0 rfl rfl 2 (Nat.le_of_ble_eq_true rfl) k4 (fun _ h9 => h9) rfl (tyX3_ok 2 (Nat.le_of_ble_eq_true rfl)) rfl rfl (Nat.le_of_ble_eq_true rfl) dX3_init_16 (fun H locs hP hD hS => ?_)
  have hP : va_P D vwCl [(h0, .inr (3, [.int 0, .int 0, .long 0, .null, .null, .null, .null]))] H := hP
  have hD : va_D A [(h0, .inr (3, [.int 0, .int 0, .long 0, .null, .null, .null, .null]))] := hD
  refine lv_aload_n hx hb dX3_init_19 rfl (lv_at hl 0 rfl) ?_
  refine lv_bipush (v := 7) hx hb dX3_init_20 (by decide) ?_
  refine va_newa (atype := .int) (ty := .int) (N' := 7) (a0 := (7, .inl (fun _ => 0))) hx hb k5 rfl hK.1 hP hD hS hA (fun _ => rfl) (by decide) (by decide) (by decide) (Nat.le_of_ble_eq_true rfl) (Nat.le_of_ble_eq_true rfl) dX3_init_22 (fun q1 cA H hKx hP hD hS => ?_)
  have ecA := kI hKx
  subst ecA
  have hP : va_P D vwCl [(h0, .inr (3, [.int 0, .int 0, .long 0, .null, .null, .null, .null])), (q1, ar cI 7 (fun _ => 0))] H := hP
  have hD : va_D A [(h0, .inr (3, [.int 0, .int 0, .long 0, .null, .null, .null, .null])), (q1, ar cI 7 (fun _ => 0))] := hD
  refine va_putF (ci := 3) (v := .ref q1) (ty := tyX3 3) (C := RX3) (T := TX3) (N := 7) hx hb hts iX3 tyX3 tyX3_ok nmX3 hown hK.1 hP hD hS 0 rfl rfl 3 (Nat.le_of_ble_eq_true rfl) k6 (fun _ h9 => h9) rfl hin rfl (tyX3_ok 3 (Nat.le_of_ble_eq_true rfl)) rfl rfl (Nat.le_of_ble_eq_true rfl) dX3_init_24 (fun H locs hP hD hS => ?_)
  have hP : va_P D vwCl [(h0, .inr (3, [.int 0, .int 0, .long 0, .ref q1, .null, .null, .null])), (q1, ar cI 7 (fun _ => 0))] H := hP
  have hD : va_D A [(h0, .inr (3, [.int 0, .int 0, .long 0, .ref q1, .null, .null, .null])), (q1, ar cI 7 (fun _ => 0))] := hD
  refine lv_aload_n hx hb dX3_init_27 rfl (lv_at hl 0 rfl) ?_
  refine lv_bipush (v := 7) hx hb dX3_init_28 (by decide) ?_
  refine va_newa (atype := .int) (ty := .int) (N' := 7) (a0 := (7, .inl (fun _ => 0))) hx hb k5 rfl hK.1 hP hD hS hA (fun _ => rfl) (by decide) (by decide) (by decide) (Nat.le_of_ble_eq_true rfl) (Nat.le_of_ble_eq_true rfl) dX3_init_30 (fun q2 cA H hKx hP hD hS => ?_)
  have ecA := kI hKx
  subst ecA
  have hP : va_P D vwCl [(h0, .inr (3, [.int 0, .int 0, .long 0, .ref q1, .null, .null, .null])), (q1, ar cI 7 (fun _ => 0)), (q2, ar cI 7 (fun _ => 0))] H := hP
  have hD : va_D A [(h0, .inr (3, [.int 0, .int 0, .long 0, .ref q1, .null, .null, .null])), (q1, ar cI 7 (fun _ => 0)), (q2, ar cI 7 (fun _ => 0))] := hD
  refine va_putF (ci := 3) (v := .ref q2) (ty := tyX3 4) (C := RX3) (T := TX3) (N := 7) hx hb hts iX3 tyX3 tyX3_ok nmX3 hown hK.1 hP hD hS 0 rfl rfl 4 (Nat.le_of_ble_eq_true rfl) k7 (fun _ h9 => h9) rfl hin rfl (tyX3_ok 4 (Nat.le_of_ble_eq_true rfl)) rfl rfl (Nat.le_of_ble_eq_true rfl) dX3_init_32 (fun H locs hP hD hS => ?_)
  have hP : va_P D vwCl [(h0, .inr (3, [.int 0, .int 0, .long 0, .ref q1, .ref q2, .null, .null])), (q1, ar cI 7 (fun _ => 0)), (q2, ar cI 7 (fun _ => 0))] H := hP
  have hD : va_D A [(h0, .inr (3, [.int 0, .int 0, .long 0, .ref q1, .ref q2, .null, .null])), (q1, ar cI 7 (fun _ => 0)), (q2, ar cI 7 (fun _ => 0))] := hD
  refine lv_aload_n hx hb dX3_init_35 rfl (lv_at hl 0 rfl) ?_
  refine lv_bipush (v := 7) hx hb dX3_init_36 (by decide) ?_
  refine va_newa (atype := .int) (ty := .int) (N' := 7) (a0 := (7, .inl (fun _ => 0))) hx hb k5 rfl hK.1 hP hD hS hA (fun _ => rfl) (by decide) (by decide) (by decide) (Nat.le_of_ble_eq_true rfl) (Nat.le_of_ble_eq_true rfl) dX3_init_38 (fun q3 cA H hKx hP hD hS => ?_)
  have ecA := kI hKx
  subst ecA
  have hP : va_P D vwCl [(h0, .inr (3, [.int 0, .int 0, .long 0, .ref q1, .ref q2, .null, .null])), (q1, ar cI 7 (fun _ => 0)), (q2, ar cI 7 (fun _ => 0)), (q3, ar cI 7 (fun _ => 0))] H := hP
  have hD : va_D A [(h0, .inr (3, [.int 0, .int 0, .long 0, .ref q1, .ref q2, .null, .null])), (q1, ar cI 7 (fun _ => 0)), (q2, ar cI 7 (fun _ => 0)), (q3, ar cI 7 (fun _ => 0))] := hD
  refine va_putF (ci := 3) (v := .ref q3) (ty := tyX3 5) (C := RX3) (T := TX3) (N := 7) hx hb hts iX3 tyX3 tyX3_ok nmX3 hown hK.1 hP hD hS 0 rfl rfl 5 (Nat.le_of_ble_eq_true rfl) k8 (fun _ h9 => h9) rfl hin rfl (tyX3_ok 5 (Nat.le_of_ble_eq_true rfl)) rfl rfl (Nat.le_of_ble_eq_true rfl) dX3_init_40 (fun H locs hP hD hS => ?_)
  have hP : va_P D vwCl [(h0, .inr (3, [.int 0, .int 0, .long 0, .ref q1, .ref q2, .ref q3, .null])), (q1, ar cI 7 (fun _ => 0)), (q2, ar cI 7 (fun _ => 0)), (q3, ar cI 7 (fun _ => 0))] H := hP
  have hD : va_D A [(h0, .inr (3, [.int 0, .int 0, .long 0, .ref q1, .ref q2, .ref q3, .null])), (q1, ar cI 7 (fun _ => 0)), (q2, ar cI 7 (fun _ => 0)), (q3, ar cI 7 (fun _ => 0))] := hD
  refine lv_aload_n hx hb dX3_init_43 rfl (lv_at hl 0 rfl) ?_
  refine lv_bipush (v := 7) hx hb dX3_init_44 (by decide) ?_
  refine va_newa (atype := .int) (ty := .int) (N' := 7) (a0 := (7, .inl (fun _ => 0))) hx hb k5 rfl hK.1 hP hD hS hA (fun _ => rfl) (by decide) (by decide) (by decide) (Nat.le_of_ble_eq_true rfl) (Nat.le_of_ble_eq_true rfl) dX3_init_46 (fun q4 cA H hKx hP hD hS => ?_)
  have ecA := kI hKx
  subst ecA
  have hP : va_P D vwCl [(h0, .inr (3, [.int 0, .int 0, .long 0, .ref q1, .ref q2, .ref q3, .null])), (q1, ar cI 7 (fun _ => 0)), (q2, ar cI 7 (fun _ => 0)), (q3, ar cI 7 (fun _ => 0)), (q4, ar cI 7 (fun _ => 0))] H := hP
  have hD : va_D A [(h0, .inr (3, [.int 0, .int 0, .long 0, .ref q1, .ref q2, .ref q3, .null])), (q1, ar cI 7 (fun _ => 0)), (q2, ar cI 7 (fun _ => 0)), (q3, ar cI 7 (fun _ => 0)), (q4, ar cI 7 (fun _ => 0))] := hD
  refine va_putF (ci := 3) (v := .ref q4) (ty := tyX3 6) (C := RX3) (T := TX3) (N := 7) hx hb hts iX3 tyX3 tyX3_ok nmX3 hown hK.1 hP hD hS 0 rfl rfl 6 (Nat.le_of_ble_eq_true rfl) k9 (fun _ h9 => h9) rfl hin rfl (tyX3_ok 6 (Nat.le_of_ble_eq_true rfl)) rfl rfl (Nat.le_of_ble_eq_true rfl) dX3_init_48 (fun H locs hP hD hS => ?_)
  have hP : va_P D vwCl [(h0, .inr (3, [.int 0, .int 0, .long 0, .ref q1, .ref q2, .ref q3, .ref q4])), (q1, ar cI 7 (fun _ => 0)), (q2, ar cI 7 (fun _ => 0)), (q3, ar cI 7 (fun _ => 0)), (q4, ar cI 7 (fun _ => 0))] H := hP
  have hD : va_D A [(h0, .inr (3, [.int 0, .int 0, .long 0, .ref q1, .ref q2, .ref q3, .ref q4])), (q1, ar cI 7 (fun _ => 0)), (q2, ar cI 7 (fun _ => 0)), (q3, ar cI 7 (fun _ => 0)), (q4, ar cI 7 (fun _ => 0))] := hD
  refine W.widen (k := 4) (n := 28) (Nat.le_of_ble_eq_true rfl) (Nat.le_of_ble_eq_true rfl) ?_
  exact rt_n hx hb hr hlocks hP hD hS ⟨q1, q2, q3, q4, rfl⟩ dX3_init_51
/-! ===== new TurnQueue$Readings ===== -/
def n_Re_init (cI cJ cS : ClassId) (h0 : Nat) : va_W → Prop := fun w => ∃ q1 q2 : Nat, w = [(h0, .inr (4, [.ref q1, .ref q2, .int 0])), (q1, ar cI 8 (fun _ => 0)), (q2, ar cI 8 (fun _ => 0))]
abbrev rm_Re_init : Room := { frames := 1, cells := 2, slots := 16, locals := 12 }
set_option maxRecDepth 100000 in
set_option maxHeartbeats 4000000 in
theorem c_Re_init (l : Launch) (D : va_G) (cI cJ cS : ClassId) (h0 : Nat) : Cn l yX4_init wsX4_init rm_Re_init D cI cJ cS [.ref h0] [(h0, .inr (4, [.null, .null, .int 0]))] (n_Re_init cI cJ cS h0) 2 16 := by
  refine Cn.of (cc := cX4_init) (maxL := 1) (by decide) rfl (Nat.le_of_ble_eq_true rfl) ?_
  intro p e s m args below meth c A ls hE
  obtain ⟨hx, hb, hr, hml, hown, hts, hlocks, hK, hA, hP, hD, hS, hl, hin, hO⟩ := hE
  have hown : s.vm.findClass RX4 = some m.cls := hown
  have hin : meth.name = "<init>" := hin
  have hl : lv_has ls 1 [(0, .ref h0)] := hl
  have iX4 : ∀ w ∈ u_ws RX4 TX4 3, w ∈ wsX4_init := by decide +kernel
  have k0 := hts (.methodLink RX4 3 objectInit) (by decide +kernel)
  have k1 := hts (.instanceMethod objectInit) (by decide +kernel)
  have k2 := hts (.arrayClass .int) (by decide +kernel)
  have k3 := hts (.fieldLink RX4 9 "TurnQueue$Readings" "persons" "[I") (by decide +kernel)
  have k4 := hts (.fieldLink RX4 15 "TurnQueue$Readings" "minutes" "[I") (by decide +kernel)
  have k5 := hts (.fieldLink RX4 18 "TurnQueue$Readings" "count" "I") (by decide +kernel)
  refine lv_aload_n hx hb dX4_init_0 rfl (lv_at hl 0 rfl) ?_
  refine W.objInit hx hb hown k0 k1 (hts _ (List.mem_of_getElem? (i := 3) rfl)) rfl (by rw [hml]; exact hl.1) rfl dX4_init_1 (Nat.le_of_ble_eq_true rfl) (Nat.le_of_ble_eq_true rfl) ?_
  refine W.eq (g2 := F0 m 4 ls []) rfl ?_
  refine lv_aload_n hx hb dX4_init_4 rfl (lv_at hl 0 rfl) ?_
  refine lv_bipush (v := 8) hx hb dX4_init_5 (by decide) ?_
  refine va_newa (atype := .int) (ty := .int) (N' := 8) (a0 := (8, .inl (fun _ => 0))) hx hb k2 rfl hK.1 hP hD hS hA (fun _ => rfl) (by decide) (by decide) (by decide) (Nat.le_of_ble_eq_true rfl) (Nat.le_of_ble_eq_true rfl) dX4_init_7 (fun q1 cA H hKx hP hD hS => ?_)
  have ecA := kI hKx
  subst ecA
  have hP : va_P D vwCl [(h0, .inr (4, [.null, .null, .int 0])), (q1, ar cI 8 (fun _ => 0))] H := hP
  have hD : va_D A [(h0, .inr (4, [.null, .null, .int 0])), (q1, ar cI 8 (fun _ => 0))] := hD
  refine va_putF (ci := 4) (v := .ref q1) (ty := tyX4 0) (C := RX4) (T := TX4) (N := 3) hx hb hts iX4 tyX4 tyX4_ok nmX4 hown hK.1 hP hD hS 0 rfl rfl 0 (Nat.le_of_ble_eq_true rfl) k3 (fun _ h9 => h9) rfl hin rfl (tyX4_ok 0 (Nat.le_of_ble_eq_true rfl)) rfl rfl (Nat.le_of_ble_eq_true rfl) dX4_init_9 (fun H locs hP hD hS => ?_)
  have hP : va_P D vwCl [(h0, .inr (4, [.ref q1, .null, .int 0])), (q1, ar cI 8 (fun _ => 0))] H := hP
  have hD : va_D A [(h0, .inr (4, [.ref q1, .null, .int 0])), (q1, ar cI 8 (fun _ => 0))] := hD
  refine lv_aload_n hx hb dX4_init_12 rfl (lv_at hl 0 rfl) ?_
  refine lv_bipush (v := 8) hx hb dX4_init_13 (by decide) ?_
  refine va_newa (atype := .int) (ty := .int) (N' := 8) (a0 := (8, .inl (fun _ => 0))) hx hb k2 rfl hK.1 hP hD hS hA (fun _ => rfl) (by decide) (by decide) (by decide) (Nat.le_of_ble_eq_true rfl) (Nat.le_of_ble_eq_true rfl) dX4_init_15 (fun q2 cA H hKx hP hD hS => ?_)
  have ecA := kI hKx
  subst ecA
  have hP : va_P D vwCl [(h0, .inr (4, [.ref q1, .null, .int 0])), (q1, ar cI 8 (fun _ => 0)), (q2, ar cI 8 (fun _ => 0))] H := hP
  have hD : va_D A [(h0, .inr (4, [.ref q1, .null, .int 0])), (q1, ar cI 8 (fun _ => 0)), (q2, ar cI 8 (fun _ => 0))] := hD
  refine va_putF (ci := 4) (v := .ref q2) (ty := tyX4 1) (C := RX4) (T := TX4) (N := 3) hx hb hts iX4 tyX4 tyX4_ok nmX4 hown hK.1 hP hD hS 0 rfl rfl 1 (Nat.le_of_ble_eq_true rfl) k4 (fun _ h9 => h9) rfl hin rfl (tyX4_ok 1 (Nat.le_of_ble_eq_true rfl)) rfl rfl (Nat.le_of_ble_eq_true rfl) dX4_init_17 (fun H locs hP hD hS => ?_)
  have hP : va_P D vwCl [(h0, .inr (4, [.ref q1, .ref q2, .int 0])), (q1, ar cI 8 (fun _ => 0)), (q2, ar cI 8 (fun _ => 0))] H := hP
  have hD : va_D A [(h0, .inr (4, [.ref q1, .ref q2, .int 0])), (q1, ar cI 8 (fun _ => 0)), (q2, ar cI 8 (fun _ => 0))] := hD
  refine lv_aload_n hx hb dX4_init_20 rfl (lv_at hl 0 rfl) ?_
  refine lv_iconst (v := 0) hx hb dX4_init_21 (by decide) ?_
  refine va_put (ci := 4) (v := .int 0) (ty := tyX4 2) (C := RX4) (T := TX4) (N := 3) hx hb hts iX4 tyX4 tyX4_ok nmX4 hown hK.1 hP hD hS 0 rfl rfl 2 (Nat.le_of_ble_eq_true rfl) k5 (fun _ h9 => h9) rfl (tyX4_ok 2 (Nat.le_of_ble_eq_true rfl)) rfl rfl (Nat.le_of_ble_eq_true rfl) dX4_init_22 (fun H locs hP hD hS => ?_)
  have hP : va_P D vwCl [(h0, .inr (4, [.ref q1, .ref q2, .int 0])), (q1, ar cI 8 (fun _ => 0)), (q2, ar cI 8 (fun _ => 0))] H := hP
  have hD : va_D A [(h0, .inr (4, [.ref q1, .ref q2, .int 0])), (q1, ar cI 8 (fun _ => 0)), (q2, ar cI 8 (fun _ => 0))] := hD
  refine W.widen (k := 2) (n := 16) (Nat.le_of_ble_eq_true rfl) (Nat.le_of_ble_eq_true rfl) ?_
  exact rt_n hx hb hr hlocks hP hD hS ⟨q1, q2, rfl⟩ dX4_init_25
/-! ===== new TurnQueue$Sheet ===== -/
def n_Sh_init (cI cJ cS : ClassId) (h0 : Nat) : va_W → Prop := fun w => ∃ q1 : Nat, w = [(h0, .inr (6, [.ref q1, .int (-1), .int 0])), (q1, ar cI 60 (fun _ => 0))]
abbrev rm_Sh_init : Room := { frames := 1, cells := 1, slots := 60, locals := 12 }
set_option maxRecDepth 100000 in
set_option maxHeartbeats 4000000 in
theorem c_Sh_init (l : Launch) (D : va_G) (cI cJ cS : ClassId) (h0 : Nat) : Cn l yX6_init wsX6_init rm_Sh_init D cI cJ cS [.ref h0] [(h0, .inr (6, [.null, .int 0, .int 0]))] (n_Sh_init cI cJ cS h0) 1 60 := by
  refine Cn.of (cc := cX6_init) (maxL := 1) (by decide) rfl (Nat.le_of_ble_eq_true rfl) ?_
  intro p e s m args below meth c A ls hE
  obtain ⟨hx, hb, hr, hml, hown, hts, hlocks, hK, hA, hP, hD, hS, hl, hin, hO⟩ := hE
  have hown : s.vm.findClass RX6 = some m.cls := hown
  have hin : meth.name = "<init>" := hin
  have hl : lv_has ls 1 [(0, .ref h0)] := hl
  have iX6 : ∀ w ∈ u_ws RX6 TX6 3, w ∈ wsX6_init := by decide +kernel
  have k0 := hts (.methodLink RX6 3 objectInit) (by decide +kernel)
  have k1 := hts (.instanceMethod objectInit) (by decide +kernel)
  have k2 := hts (.arrayClass .int) (by decide +kernel)
  have k3 := hts (.fieldLink RX6 9 "TurnQueue$Sheet" "cells" "[I") (by decide +kernel)
  have k4 := hts (.fieldLink RX6 15 "TurnQueue$Sheet" "lane" "I") (by decide +kernel)
  have k5 := hts (.fieldLink RX6 19 "TurnQueue$Sheet" "size" "I") (by decide +kernel)
  refine lv_aload_n hx hb dX6_init_0 rfl (lv_at hl 0 rfl) ?_
  refine W.objInit hx hb hown k0 k1 (hts _ (List.mem_of_getElem? (i := 3) rfl)) rfl (by rw [hml]; exact hl.1) rfl dX6_init_1 (Nat.le_of_ble_eq_true rfl) (Nat.le_of_ble_eq_true rfl) ?_
  refine W.eq (g2 := F0 m 4 ls []) rfl ?_
  refine lv_aload_n hx hb dX6_init_4 rfl (lv_at hl 0 rfl) ?_
  refine lv_bipush (v := 60) hx hb dX6_init_5 (by decide) ?_
  refine va_newa (atype := .int) (ty := .int) (N' := 60) (a0 := (60, .inl (fun _ => 0))) hx hb k2 rfl hK.1 hP hD hS hA (fun _ => rfl) (by decide) (by decide) (by decide) (Nat.le_of_ble_eq_true rfl) (Nat.le_of_ble_eq_true rfl) dX6_init_7 (fun q1 cA H hKx hP hD hS => ?_)
  have ecA := kI hKx
  subst ecA
  have hP : va_P D vwCl [(h0, .inr (6, [.null, .int 0, .int 0])), (q1, ar cI 60 (fun _ => 0))] H := hP
  have hD : va_D A [(h0, .inr (6, [.null, .int 0, .int 0])), (q1, ar cI 60 (fun _ => 0))] := hD
  refine va_putF (ci := 6) (v := .ref q1) (ty := tyX6 0) (C := RX6) (T := TX6) (N := 3) hx hb hts iX6 tyX6 tyX6_ok nmX6 hown hK.1 hP hD hS 0 rfl rfl 0 (Nat.le_of_ble_eq_true rfl) k3 (fun _ h9 => h9) rfl hin rfl (tyX6_ok 0 (Nat.le_of_ble_eq_true rfl)) rfl rfl (Nat.le_of_ble_eq_true rfl) dX6_init_9 (fun H locs hP hD hS => ?_)
  have hP : va_P D vwCl [(h0, .inr (6, [.ref q1, .int 0, .int 0])), (q1, ar cI 60 (fun _ => 0))] H := hP
  have hD : va_D A [(h0, .inr (6, [.ref q1, .int 0, .int 0])), (q1, ar cI 60 (fun _ => 0))] := hD
  refine lv_aload_n hx hb dX6_init_12 rfl (lv_at hl 0 rfl) ?_
  refine lv_iconst (v := (-1)) hx hb dX6_init_13 (by decide) ?_
  refine va_put (ci := 6) (v := .int (-1)) (ty := tyX6 1) (C := RX6) (T := TX6) (N := 3) hx hb hts iX6 tyX6 tyX6_ok nmX6 hown hK.1 hP hD hS 0 rfl rfl 1 (Nat.le_of_ble_eq_true rfl) k4 (fun _ h9 => h9) rfl (tyX6_ok 1 (Nat.le_of_ble_eq_true rfl)) rfl rfl (Nat.le_of_ble_eq_true rfl) dX6_init_14 (fun H locs hP hD hS => ?_)
  have hP : va_P D vwCl [(h0, .inr (6, [.ref q1, .int (-1), .int 0])), (q1, ar cI 60 (fun _ => 0))] H := hP
  have hD : va_D A [(h0, .inr (6, [.ref q1, .int (-1), .int 0])), (q1, ar cI 60 (fun _ => 0))] := hD
  refine lv_aload_n hx hb dX6_init_17 rfl (lv_at hl 0 rfl) ?_
  refine lv_iconst (v := 0) hx hb dX6_init_18 (by decide) ?_
  refine va_put (ci := 6) (v := .int 0) (ty := tyX6 2) (C := RX6) (T := TX6) (N := 3) hx hb hts iX6 tyX6 tyX6_ok nmX6 hown hK.1 hP hD hS 0 rfl rfl 2 (Nat.le_of_ble_eq_true rfl) k5 (fun _ h9 => h9) rfl (tyX6_ok 2 (Nat.le_of_ble_eq_true rfl)) rfl rfl (Nat.le_of_ble_eq_true rfl) dX6_init_19 (fun H locs hP hD hS => ?_)
  have hP : va_P D vwCl [(h0, .inr (6, [.ref q1, .int (-1), .int 0])), (q1, ar cI 60 (fun _ => 0))] H := hP
  have hD : va_D A [(h0, .inr (6, [.ref q1, .int (-1), .int 0])), (q1, ar cI 60 (fun _ => 0))] := hD
  refine W.widen (k := 1) (n := 60) (Nat.le_of_ble_eq_true rfl) (Nat.le_of_ble_eq_true rfl) ?_
  exact rt_n hx hb hr hlocks hP hD hS ⟨q1, rfl⟩ dX6_init_22
/-! ===== new TurnQueue$Counter ===== -/
def n_Co_init (cI cJ cS : ClassId) (h0 : Nat) : va_W → Prop := fun w => ∃ q1 q2 q3 : Nat, w = [(h0, .inr (1, [.ref q1, .ref q3, .int (-9), .int 0, .long 0, .int 0])), (q1, .inr (2, [.ref q2, .int 0])), (q2, ar cI 7 (fun _ => 0)), (q3, ar cI 7 (fun _ => 0))]
abbrev rm_Co_init : Room := { frames := 2, cells := 3, slots := 16, locals := 32 }
set_option maxRecDepth 100000 in
set_option maxHeartbeats 4000000 in
theorem c_Co_init (l : Launch) (D : va_G) (cI cJ cS : ClassId) (h0 : Nat) : Cn l yX1_init wsX1_init rm_Co_init D cI cJ cS [.ref h0] [(h0, .inr (1, [.null, .null, .int 0, .int 0, .long 0, .int 0]))] (n_Co_init cI cJ cS h0) 3 16 := by
  refine Cn.of (cc := cX1_init) (maxL := 1) (by decide) rfl (Nat.le_of_ble_eq_true rfl) ?_
  intro p e s m args below meth c A ls hE
  obtain ⟨hx, hb, hr, hml, hown, hts, hlocks, hK, hA, hP, hD, hS, hl, hin, hO⟩ := hE
  have hown : s.vm.findClass RX1 = some m.cls := hown
  have hin : meth.name = "<init>" := hin
  have hl : lv_has ls 1 [(0, .ref h0)] := hl
  have iX2 : ∀ w ∈ u_ws RX2 TX2 2, w ∈ wsX1_init := by decide +kernel
  have iX1 : ∀ w ∈ u_ws RX1 TX1 6, w ∈ wsX1_init := by decide +kernel
  have k0 := hts (.methodLink RX1 3 objectInit) (by decide +kernel)
  have k1 := hts (.instanceMethod objectInit) (by decide +kernel)
  have k2 := hts (.classLink RX1 9 RX2) (by decide +kernel)
  have k3 := hts (.instantiable RX2 2) (by decide +kernel)
  have k4 := hts (.initialized RX2) (by decide +kernel)
  have k5 := hts (.instanceMethod yX2_init) (by decide +kernel)
  have k6 := hts (.fieldLink RX1 12 "TurnQueue$Counter" "line" "LTurnQueue$Line;") (by decide +kernel)
  have k7 := hts (.arrayClass .int) (by decide +kernel)
  have k8 := hts (.fieldLink RX1 18 "TurnQueue$Counter" "servedAt" "[I") (by decide +kernel)
  have k9 := hts (.fieldLink RX1 22 "TurnQueue$Counter" "serving" "I") (by decide +kernel)
  have k10 := hts (.fieldLink RX1 26 "TurnQueue$Counter" "awaited" "I") (by decide +kernel)
  have k11 := hts (.fieldLink RX1 29 "TurnQueue$Counter" "turnable" "J") (by decide +kernel)
  have k12 := hts (.fieldLink RX1 33 "TurnQueue$Counter" "doneAt" "I") (by decide +kernel)
  refine lv_aload_n hx hb dX1_init_0 rfl (lv_at hl 0 rfl) ?_
  refine W.objInit hx hb hown k0 k1 (hts _ (List.mem_of_getElem? (i := 3) rfl)) rfl (by rw [hml]; exact hl.1) rfl dX1_init_1 (Nat.le_of_ble_eq_true rfl) (Nat.le_of_ble_eq_true rfl) ?_
  refine W.eq (g2 := F0 m 4 ls []) rfl ?_
  refine lv_aload_n hx hb dX1_init_4 rfl (lv_at hl 0 rfl) ?_
  refine va_new (ci := 2) (fs := [.null, .int 0]) (C := RX2) (T := TX2) (N := 2) hx hb hts iX2 tyX2 tyX2_ok hown k2 k3 k4 hK.1 hP hD hS hA rfl (fun j hj => by rcases (show j = 0 ∨ j = 1 by omega) with rfl | rfl <;> rfl) (Nat.le_of_ble_eq_true rfl) (Nat.le_of_ble_eq_true rfl) dX1_init_5 (fun q1 H hP hD hS => ?_)
  have hP : va_P D vwCl [(h0, .inr (1, [.null, .null, .int 0, .int 0, .long 0, .int 0])), (q1, .inr (2, [.null, .int 0]))] H := hP
  have hD : va_D A [(h0, .inr (1, [.null, .null, .int 0, .int 0, .long 0, .int 0])), (q1, .inr (2, [.null, .int 0]))] := hD
  refine lv_dup hx hb dX1_init_8 rfl ?_
  refine af_n (wr := [(h0, .inr (1, [.null, .null, .int 0, .int 0, .long 0, .int 0]))]) (va_runIN (As := []) (rest := [.ref q1, .ref h0]) ⟨hx, hb, hml, hown, hts⟩ (c_Li_init l D cI cJ cS q1 _) ⟨va_cnB 0 hts gX1_init_X2_init_n11 rfl rfl rfl hK.2.2.2.2.2.2.2.2.2.2.1 k4 (by decide +kernel) ⟨(Nat.le_of_ble_eq_true rfl), (Nat.le_of_ble_eq_true rfl)⟩, rfl, k5⟩ (pre_N hK hO hP hD [1] rfl rfl) rfl rfl hl.1 rfl (lv_room (Nat.le_of_ble_eq_true rfl)) dX1_init_9 ⟨(Nat.le_of_ble_eq_true rfl), (Nat.le_of_ble_eq_true rfl)⟩) hP hD hS hA [1] [0] rfl rfl rfl (by decide) (fun w H locs hw hP hD hS => ?_)
  obtain ⟨q2, rfl⟩ := hw
  have hP : va_P D vwCl [(h0, .inr (1, [.null, .null, .int 0, .int 0, .long 0, .int 0])), (q1, .inr (2, [.ref q2, .int 0])), (q2, ar cI 7 (fun _ => 0))] H := hP
  have hD : va_D A [(h0, .inr (1, [.null, .null, .int 0, .int 0, .long 0, .int 0])), (q1, .inr (2, [.ref q2, .int 0])), (q2, ar cI 7 (fun _ => 0))] := hD
  refine va_putF (ci := 1) (v := .ref q1) (ty := tyX1 0) (C := RX1) (T := TX1) (N := 6) hx hb hts iX1 tyX1 tyX1_ok nmX1 hown hK.1 hP hD hS 0 rfl rfl 0 (Nat.le_of_ble_eq_true rfl) k6 (fun _ h9 => h9) rfl hin rfl (tyX1_ok 0 (Nat.le_of_ble_eq_true rfl)) rfl rfl (Nat.le_of_ble_eq_true rfl) dX1_init_12 (fun H locs hP hD hS => ?_)
  have hP : va_P D vwCl [(h0, .inr (1, [.ref q1, .null, .int 0, .int 0, .long 0, .int 0])), (q1, .inr (2, [.ref q2, .int 0])), (q2, ar cI 7 (fun _ => 0))] H := hP
  have hD : va_D A [(h0, .inr (1, [.ref q1, .null, .int 0, .int 0, .long 0, .int 0])), (q1, .inr (2, [.ref q2, .int 0])), (q2, ar cI 7 (fun _ => 0))] := hD
  refine lv_aload_n hx hb dX1_init_15 rfl (lv_at hl 0 rfl) ?_
  refine lv_bipush (v := 7) hx hb dX1_init_16 (by decide) ?_
  refine va_newa (atype := .int) (ty := .int) (N' := 7) (a0 := (7, .inl (fun _ => 0))) hx hb k7 rfl hK.1 hP hD hS hA (fun _ => rfl) (by decide) (by decide) (by decide) (Nat.le_of_ble_eq_true rfl) (Nat.le_of_ble_eq_true rfl) dX1_init_18 (fun q3 cA H hKx hP hD hS => ?_)
  have ecA := kI hKx
  subst ecA
  have hP : va_P D vwCl [(h0, .inr (1, [.ref q1, .null, .int 0, .int 0, .long 0, .int 0])), (q1, .inr (2, [.ref q2, .int 0])), (q2, ar cI 7 (fun _ => 0)), (q3, ar cI 7 (fun _ => 0))] H := hP
  have hD : va_D A [(h0, .inr (1, [.ref q1, .null, .int 0, .int 0, .long 0, .int 0])), (q1, .inr (2, [.ref q2, .int 0])), (q2, ar cI 7 (fun _ => 0)), (q3, ar cI 7 (fun _ => 0))] := hD
  refine va_putF (ci := 1) (v := .ref q3) (ty := tyX1 1) (C := RX1) (T := TX1) (N := 6) hx hb hts iX1 tyX1 tyX1_ok nmX1 hown hK.1 hP hD hS 0 rfl rfl 1 (Nat.le_of_ble_eq_true rfl) k8 (fun _ h9 => h9) rfl hin rfl (tyX1_ok 1 (Nat.le_of_ble_eq_true rfl)) rfl rfl (Nat.le_of_ble_eq_true rfl) dX1_init_20 (fun H locs hP hD hS => ?_)
  have hP : va_P D vwCl [(h0, .inr (1, [.ref q1, .ref q3, .int 0, .int 0, .long 0, .int 0])), (q1, .inr (2, [.ref q2, .int 0])), (q2, ar cI 7 (fun _ => 0)), (q3, ar cI 7 (fun _ => 0))] H := hP
  have hD : va_D A [(h0, .inr (1, [.ref q1, .ref q3, .int 0, .int 0, .long 0, .int 0])), (q1, .inr (2, [.ref q2, .int 0])), (q2, ar cI 7 (fun _ => 0)), (q3, ar cI 7 (fun _ => 0))] := hD
  refine lv_aload_n hx hb dX1_init_23 rfl (lv_at hl 0 rfl) ?_
  refine lv_bipush (v := (-9)) hx hb dX1_init_24 (by decide) ?_
  refine va_put (ci := 1) (v := .int (-9)) (ty := tyX1 2) (C := RX1) (T := TX1) (N := 6) hx hb hts iX1 tyX1 tyX1_ok nmX1 hown hK.1 hP hD hS 0 rfl rfl 2 (Nat.le_of_ble_eq_true rfl) k9 (fun _ h9 => h9) rfl (tyX1_ok 2 (Nat.le_of_ble_eq_true rfl)) rfl rfl (Nat.le_of_ble_eq_true rfl) dX1_init_26 (fun H locs hP hD hS => ?_)
  have hP : va_P D vwCl [(h0, .inr (1, [.ref q1, .ref q3, .int (-9), .int 0, .long 0, .int 0])), (q1, .inr (2, [.ref q2, .int 0])), (q2, ar cI 7 (fun _ => 0)), (q3, ar cI 7 (fun _ => 0))] H := hP
  have hD : va_D A [(h0, .inr (1, [.ref q1, .ref q3, .int (-9), .int 0, .long 0, .int 0])), (q1, .inr (2, [.ref q2, .int 0])), (q2, ar cI 7 (fun _ => 0)), (q3, ar cI 7 (fun _ => 0))] := hD
  refine lv_aload_n hx hb dX1_init_29 rfl (lv_at hl 0 rfl) ?_
  refine lv_iconst (v := 0) hx hb dX1_init_30 (by decide) ?_
  refine va_put (ci := 1) (v := .int 0) (ty := tyX1 3) (C := RX1) (T := TX1) (N := 6) hx hb hts iX1 tyX1 tyX1_ok nmX1 hown hK.1 hP hD hS 0 rfl rfl 3 (Nat.le_of_ble_eq_true rfl) k10 (fun _ h9 => h9) rfl (tyX1_ok 3 (Nat.le_of_ble_eq_true rfl)) rfl rfl (Nat.le_of_ble_eq_true rfl) dX1_init_31 (fun H locs hP hD hS => ?_)
  have hP : va_P D vwCl [(h0, .inr (1, [.ref q1, .ref q3, .int (-9), .int 0, .long 0, .int 0])), (q1, .inr (2, [.ref q2, .int 0])), (q2, ar cI 7 (fun _ => 0)), (q3, ar cI 7 (fun _ => 0))] H := hP
  have hD : va_D A [(h0, .inr (1, [.ref q1, .ref q3, .int (-9), .int 0, .long 0, .int 0])), (q1, .inr (2, [.ref q2, .int 0])), (q2, ar cI 7 (fun _ => 0)), (q3, ar cI 7 (fun _ => 0))] := hD
  refine lv_aload_n hx hb dX1_init_34 rfl (lv_at hl 0 rfl) ?_
  refine lv_lconst (v := 0) hx hb dX1_init_35 (by decide) ?_
  refine va_put (ci := 1) (v := .long 0) (ty := tyX1 4) (C := RX1) (T := TX1) (N := 6) hx hb hts iX1 tyX1 tyX1_ok nmX1 hown hK.1 hP hD hS 0 rfl rfl 4 (Nat.le_of_ble_eq_true rfl) k11 (fun _ h9 => h9) rfl (tyX1_ok 4 (Nat.le_of_ble_eq_true rfl)) rfl rfl (Nat.le_of_ble_eq_true rfl) dX1_init_36 (fun H locs hP hD hS => ?_)
  have hP : va_P D vwCl [(h0, .inr (1, [.ref q1, .ref q3, .int (-9), .int 0, .long 0, .int 0])), (q1, .inr (2, [.ref q2, .int 0])), (q2, ar cI 7 (fun _ => 0)), (q3, ar cI 7 (fun _ => 0))] H := hP
  have hD : va_D A [(h0, .inr (1, [.ref q1, .ref q3, .int (-9), .int 0, .long 0, .int 0])), (q1, .inr (2, [.ref q2, .int 0])), (q2, ar cI 7 (fun _ => 0)), (q3, ar cI 7 (fun _ => 0))] := hD
  refine lv_aload_n hx hb dX1_init_39 rfl (lv_at hl 0 rfl) ?_
  refine lv_iconst (v := 0) hx hb dX1_init_40 (by decide) ?_
  refine va_put (ci := 1) (v := .int 0) (ty := tyX1 5) (C := RX1) (T := TX1) (N := 6) hx hb hts iX1 tyX1 tyX1_ok nmX1 hown hK.1 hP hD hS 0 rfl rfl 5 (Nat.le_of_ble_eq_true rfl) k12 (fun _ h9 => h9) rfl (tyX1_ok 5 (Nat.le_of_ble_eq_true rfl)) rfl rfl (Nat.le_of_ble_eq_true rfl) dX1_init_41 (fun H locs hP hD hS => ?_)
  have hP : va_P D vwCl [(h0, .inr (1, [.ref q1, .ref q3, .int (-9), .int 0, .long 0, .int 0])), (q1, .inr (2, [.ref q2, .int 0])), (q2, ar cI 7 (fun _ => 0)), (q3, ar cI 7 (fun _ => 0))] H := hP
  have hD : va_D A [(h0, .inr (1, [.ref q1, .ref q3, .int (-9), .int 0, .long 0, .int 0])), (q1, .inr (2, [.ref q2, .int 0])), (q2, ar cI 7 (fun _ => 0)), (q3, ar cI 7 (fun _ => 0))] := hD
  refine W.widen (k := 3) (n := 16) (Nat.le_of_ble_eq_true rfl) (Nat.le_of_ble_eq_true rfl) ?_
  exact rt_n hx hb hr hlocks hP hD hS ⟨q1, q2, q3, rfl⟩ dX1_init_44
/-! ===== new TurnQueue$Choices ===== -/
def n_Ch_init (cI cJ cS : ClassId) (h0 : Nat) : va_W → Prop := fun w => ∃ q1 q2 q3 q4 q5 q6 q7 q8 q9 : Nat, w = [(h0, .inr (0, [.ref q1, .ref q5, .int (-9), .int 0, .int 0])), (q1, .inr (1, [.ref q2, .ref q4, .int (-9), .int 0, .long 0, .int 0])), (q2, .inr (2, [.ref q3, .int 0])), (q3, ar cI 7 (fun _ => 0)), (q4, ar cI 7 (fun _ => 0)), (q5, .inr (3, [.int 0, .int 0, .long 0, .ref q6, .ref q7, .ref q8, .ref q9])), (q6, ar cI 7 (fun _ => 0)), (q7, ar cI 7 (fun _ => 0)), (q8, ar cI 7 (fun _ => 0)), (q9, ar cI 7 (fun _ => 0))]
abbrev rm_Ch_init : Room := { frames := 3, cells := 9, slots := 57, locals := 52 }
set_option maxRecDepth 100000 in
set_option maxHeartbeats 4000000 in
theorem c_Ch_init (l : Launch) (D : va_G) (cI cJ cS : ClassId) (h0 : Nat) : Cn l yX0_init wsX0_init rm_Ch_init D cI cJ cS [.ref h0] [(h0, .inr (0, [.null, .null, .int 0, .int 0, .int 0]))] (n_Ch_init cI cJ cS h0) 9 57 := by
  refine Cn.of (cc := cX0_init) (maxL := 1) (by decide) rfl (Nat.le_of_ble_eq_true rfl) ?_
  intro p e s m args below meth c A ls hE
  obtain ⟨hx, hb, hr, hml, hown, hts, hlocks, hK, hA, hP, hD, hS, hl, hin, hO⟩ := hE
  have hown : s.vm.findClass RX0 = some m.cls := hown
  have hin : meth.name = "<init>" := hin
  have hl : lv_has ls 1 [(0, .ref h0)] := hl
  have iX1 : ∀ w ∈ u_ws RX1 TX1 6, w ∈ wsX0_init := by decide +kernel
  have iX0 : ∀ w ∈ u_ws RX0 TX0 5, w ∈ wsX0_init := by decide +kernel
  have iX3 : ∀ w ∈ u_ws RX3 TX3 7, w ∈ wsX0_init := by decide +kernel
  have k0 := hts (.methodLink RX0 3 objectInit) (by decide +kernel)
  have k1 := hts (.instanceMethod objectInit) (by decide +kernel)
  have k2 := hts (.classLink RX0 9 RX1) (by decide +kernel)
  have k3 := hts (.instantiable RX1 6) (by decide +kernel)
  have k4 := hts (.initialized RX1) (by decide +kernel)
  have k5 := hts (.instanceMethod yX1_init) (by decide +kernel)
  have k6 := hts (.fieldLink RX0 12 "TurnQueue$Choices" "counter" "LTurnQueue$Counter;") (by decide +kernel)
  have k7 := hts (.classLink RX0 18 RX3) (by decide +kernel)
  have k8 := hts (.instantiable RX3 7) (by decide +kernel)
  have k9 := hts (.initialized RX3) (by decide +kernel)
  have k10 := hts (.instanceMethod yX3_init) (by decide +kernel)
  have k11 := hts (.fieldLink RX0 21 "TurnQueue$Choices" "guess" "LTurnQueue$Plan;") (by decide +kernel)
  have k12 := hts (.fieldLink RX0 25 "TurnQueue$Choices" "minute" "I") (by decide +kernel)
  have k13 := hts (.fieldLink RX0 29 "TurnQueue$Choices" "servedThen" "I") (by decide +kernel)
  have k14 := hts (.fieldLink RX0 32 "TurnQueue$Choices" "rounds" "I") (by decide +kernel)
  refine lv_aload_n hx hb dX0_init_0 rfl (lv_at hl 0 rfl) ?_
  refine W.objInit hx hb hown k0 k1 (hts _ (List.mem_of_getElem? (i := 3) rfl)) rfl (by rw [hml]; exact hl.1) rfl dX0_init_1 (Nat.le_of_ble_eq_true rfl) (Nat.le_of_ble_eq_true rfl) ?_
  refine W.eq (g2 := F0 m 4 ls []) rfl ?_
  refine lv_aload_n hx hb dX0_init_4 rfl (lv_at hl 0 rfl) ?_
  refine va_new (ci := 1) (fs := [.null, .null, .int 0, .int 0, .long 0, .int 0]) (C := RX1) (T := TX1) (N := 6) hx hb hts iX1 tyX1 tyX1_ok hown k2 k3 k4 hK.1 hP hD hS hA rfl (fun j hj => by rcases (show j = 0 ∨ j = 1 ∨ j = 2 ∨ j = 3 ∨ j = 4 ∨ j = 5 by omega) with rfl | rfl | rfl | rfl | rfl | rfl <;> rfl) (Nat.le_of_ble_eq_true rfl) (Nat.le_of_ble_eq_true rfl) dX0_init_5 (fun q1 H hP hD hS => ?_)
  have hP : va_P D vwCl [(h0, .inr (0, [.null, .null, .int 0, .int 0, .int 0])), (q1, .inr (1, [.null, .null, .int 0, .int 0, .long 0, .int 0]))] H := hP
  have hD : va_D A [(h0, .inr (0, [.null, .null, .int 0, .int 0, .int 0])), (q1, .inr (1, [.null, .null, .int 0, .int 0, .long 0, .int 0]))] := hD
  refine lv_dup hx hb dX0_init_8 rfl ?_
  refine af_n (wr := [(h0, .inr (0, [.null, .null, .int 0, .int 0, .int 0]))]) (va_runIN (As := []) (rest := [.ref q1, .ref h0]) ⟨hx, hb, hml, hown, hts⟩ (c_Co_init l D cI cJ cS q1 _) ⟨va_cnB 0 hts gX0_init_X1_init_n11 rfl rfl rfl hK.2.2.2.2.2.2.2.1 k4 (by decide +kernel) ⟨(Nat.le_of_ble_eq_true rfl), (Nat.le_of_ble_eq_true rfl)⟩, rfl, k5⟩ (pre_N hK hO hP hD [1] rfl rfl) rfl rfl hl.1 rfl (lv_room (Nat.le_of_ble_eq_true rfl)) dX0_init_9 ⟨(Nat.le_of_ble_eq_true rfl), (Nat.le_of_ble_eq_true rfl)⟩) hP hD hS hA [1] [0] rfl rfl rfl (by decide) (fun w H locs hw hP hD hS => ?_)
  obtain ⟨q2, q3, q4, rfl⟩ := hw
  have hP : va_P D vwCl [(h0, .inr (0, [.null, .null, .int 0, .int 0, .int 0])), (q1, .inr (1, [.ref q2, .ref q4, .int (-9), .int 0, .long 0, .int 0])), (q2, .inr (2, [.ref q3, .int 0])), (q3, ar cI 7 (fun _ => 0)), (q4, ar cI 7 (fun _ => 0))] H := hP
  have hD : va_D A [(h0, .inr (0, [.null, .null, .int 0, .int 0, .int 0])), (q1, .inr (1, [.ref q2, .ref q4, .int (-9), .int 0, .long 0, .int 0])), (q2, .inr (2, [.ref q3, .int 0])), (q3, ar cI 7 (fun _ => 0)), (q4, ar cI 7 (fun _ => 0))] := hD
  refine va_putF (ci := 0) (v := .ref q1) (ty := tyX0 0) (C := RX0) (T := TX0) (N := 5) hx hb hts iX0 tyX0 tyX0_ok nmX0 hown hK.1 hP hD hS 0 rfl rfl 0 (Nat.le_of_ble_eq_true rfl) k6 (fun _ h9 => h9) rfl hin rfl (tyX0_ok 0 (Nat.le_of_ble_eq_true rfl)) rfl rfl (Nat.le_of_ble_eq_true rfl) dX0_init_12 (fun H locs hP hD hS => ?_)
  have hP : va_P D vwCl [(h0, .inr (0, [.ref q1, .null, .int 0, .int 0, .int 0])), (q1, .inr (1, [.ref q2, .ref q4, .int (-9), .int 0, .long 0, .int 0])), (q2, .inr (2, [.ref q3, .int 0])), (q3, ar cI 7 (fun _ => 0)), (q4, ar cI 7 (fun _ => 0))] H := hP
  have hD : va_D A [(h0, .inr (0, [.ref q1, .null, .int 0, .int 0, .int 0])), (q1, .inr (1, [.ref q2, .ref q4, .int (-9), .int 0, .long 0, .int 0])), (q2, .inr (2, [.ref q3, .int 0])), (q3, ar cI 7 (fun _ => 0)), (q4, ar cI 7 (fun _ => 0))] := hD
  refine lv_aload_n hx hb dX0_init_15 rfl (lv_at hl 0 rfl) ?_
  refine va_new (ci := 3) (fs := [.int 0, .int 0, .long 0, .null, .null, .null, .null]) (C := RX3) (T := TX3) (N := 7) hx hb hts iX3 tyX3 tyX3_ok hown k7 k8 k9 hK.1 hP hD hS hA rfl (fun j hj => by rcases (show j = 0 ∨ j = 1 ∨ j = 2 ∨ j = 3 ∨ j = 4 ∨ j = 5 ∨ j = 6 by omega) with rfl | rfl | rfl | rfl | rfl | rfl | rfl <;> rfl) (Nat.le_of_ble_eq_true rfl) (Nat.le_of_ble_eq_true rfl) dX0_init_16 (fun q5 H hP hD hS => ?_)
  have hP : va_P D vwCl [(h0, .inr (0, [.ref q1, .null, .int 0, .int 0, .int 0])), (q1, .inr (1, [.ref q2, .ref q4, .int (-9), .int 0, .long 0, .int 0])), (q2, .inr (2, [.ref q3, .int 0])), (q3, ar cI 7 (fun _ => 0)), (q4, ar cI 7 (fun _ => 0)), (q5, .inr (3, [.int 0, .int 0, .long 0, .null, .null, .null, .null]))] H := hP
  have hD : va_D A [(h0, .inr (0, [.ref q1, .null, .int 0, .int 0, .int 0])), (q1, .inr (1, [.ref q2, .ref q4, .int (-9), .int 0, .long 0, .int 0])), (q2, .inr (2, [.ref q3, .int 0])), (q3, ar cI 7 (fun _ => 0)), (q4, ar cI 7 (fun _ => 0)), (q5, .inr (3, [.int 0, .int 0, .long 0, .null, .null, .null, .null]))] := hD
  refine lv_dup hx hb dX0_init_19 rfl ?_
  refine af_n (wr := [(h0, .inr (0, [.ref q1, .null, .int 0, .int 0, .int 0])), (q1, .inr (1, [.ref q2, .ref q4, .int (-9), .int 0, .long 0, .int 0])), (q2, .inr (2, [.ref q3, .int 0])), (q3, ar cI 7 (fun _ => 0)), (q4, ar cI 7 (fun _ => 0))]) (va_runIN (As := []) (rest := [.ref q5, .ref h0]) ⟨hx, hb, hml, hown, hts⟩ (c_Pl_init l D cI cJ cS q5 _) ⟨va_cnB 0 hts gX0_init_X3_init_n20 rfl rfl rfl hK.2.2.2.2.2.2.2.2.1 k9 (by decide +kernel) ⟨(Nat.le_of_ble_eq_true rfl), (Nat.le_of_ble_eq_true rfl)⟩, rfl, k10⟩ (pre_N hK hO hP hD [5] rfl rfl) rfl rfl hl.1 rfl (lv_room (Nat.le_of_ble_eq_true rfl)) dX0_init_20 ⟨(Nat.le_of_ble_eq_true rfl), (Nat.le_of_ble_eq_true rfl)⟩) hP hD hS hA [5] [0, 1, 2, 3, 4] rfl rfl rfl (by decide) (fun w H locs hw hP hD hS => ?_)
  obtain ⟨q6, q7, q8, q9, rfl⟩ := hw
  have hP : va_P D vwCl [(h0, .inr (0, [.ref q1, .null, .int 0, .int 0, .int 0])), (q1, .inr (1, [.ref q2, .ref q4, .int (-9), .int 0, .long 0, .int 0])), (q2, .inr (2, [.ref q3, .int 0])), (q3, ar cI 7 (fun _ => 0)), (q4, ar cI 7 (fun _ => 0)), (q5, .inr (3, [.int 0, .int 0, .long 0, .ref q6, .ref q7, .ref q8, .ref q9])), (q6, ar cI 7 (fun _ => 0)), (q7, ar cI 7 (fun _ => 0)), (q8, ar cI 7 (fun _ => 0)), (q9, ar cI 7 (fun _ => 0))] H := hP
  have hD : va_D A [(h0, .inr (0, [.ref q1, .null, .int 0, .int 0, .int 0])), (q1, .inr (1, [.ref q2, .ref q4, .int (-9), .int 0, .long 0, .int 0])), (q2, .inr (2, [.ref q3, .int 0])), (q3, ar cI 7 (fun _ => 0)), (q4, ar cI 7 (fun _ => 0)), (q5, .inr (3, [.int 0, .int 0, .long 0, .ref q6, .ref q7, .ref q8, .ref q9])), (q6, ar cI 7 (fun _ => 0)), (q7, ar cI 7 (fun _ => 0)), (q8, ar cI 7 (fun _ => 0)), (q9, ar cI 7 (fun _ => 0))] := hD
  refine va_putF (ci := 0) (v := .ref q5) (ty := tyX0 1) (C := RX0) (T := TX0) (N := 5) hx hb hts iX0 tyX0 tyX0_ok nmX0 hown hK.1 hP hD hS 0 rfl rfl 1 (Nat.le_of_ble_eq_true rfl) k11 (fun _ h9 => h9) rfl hin rfl (tyX0_ok 1 (Nat.le_of_ble_eq_true rfl)) rfl rfl (Nat.le_of_ble_eq_true rfl) dX0_init_23 (fun H locs hP hD hS => ?_)
  have hP : va_P D vwCl [(h0, .inr (0, [.ref q1, .ref q5, .int 0, .int 0, .int 0])), (q1, .inr (1, [.ref q2, .ref q4, .int (-9), .int 0, .long 0, .int 0])), (q2, .inr (2, [.ref q3, .int 0])), (q3, ar cI 7 (fun _ => 0)), (q4, ar cI 7 (fun _ => 0)), (q5, .inr (3, [.int 0, .int 0, .long 0, .ref q6, .ref q7, .ref q8, .ref q9])), (q6, ar cI 7 (fun _ => 0)), (q7, ar cI 7 (fun _ => 0)), (q8, ar cI 7 (fun _ => 0)), (q9, ar cI 7 (fun _ => 0))] H := hP
  have hD : va_D A [(h0, .inr (0, [.ref q1, .ref q5, .int 0, .int 0, .int 0])), (q1, .inr (1, [.ref q2, .ref q4, .int (-9), .int 0, .long 0, .int 0])), (q2, .inr (2, [.ref q3, .int 0])), (q3, ar cI 7 (fun _ => 0)), (q4, ar cI 7 (fun _ => 0)), (q5, .inr (3, [.int 0, .int 0, .long 0, .ref q6, .ref q7, .ref q8, .ref q9])), (q6, ar cI 7 (fun _ => 0)), (q7, ar cI 7 (fun _ => 0)), (q8, ar cI 7 (fun _ => 0)), (q9, ar cI 7 (fun _ => 0))] := hD
  refine lv_aload_n hx hb dX0_init_26 rfl (lv_at hl 0 rfl) ?_
  refine lv_bipush (v := (-9)) hx hb dX0_init_27 (by decide) ?_
  refine va_put (ci := 0) (v := .int (-9)) (ty := tyX0 2) (C := RX0) (T := TX0) (N := 5) hx hb hts iX0 tyX0 tyX0_ok nmX0 hown hK.1 hP hD hS 0 rfl rfl 2 (Nat.le_of_ble_eq_true rfl) k12 (fun _ h9 => h9) rfl (tyX0_ok 2 (Nat.le_of_ble_eq_true rfl)) rfl rfl (Nat.le_of_ble_eq_true rfl) dX0_init_29 (fun H locs hP hD hS => ?_)
  have hP : va_P D vwCl [(h0, .inr (0, [.ref q1, .ref q5, .int (-9), .int 0, .int 0])), (q1, .inr (1, [.ref q2, .ref q4, .int (-9), .int 0, .long 0, .int 0])), (q2, .inr (2, [.ref q3, .int 0])), (q3, ar cI 7 (fun _ => 0)), (q4, ar cI 7 (fun _ => 0)), (q5, .inr (3, [.int 0, .int 0, .long 0, .ref q6, .ref q7, .ref q8, .ref q9])), (q6, ar cI 7 (fun _ => 0)), (q7, ar cI 7 (fun _ => 0)), (q8, ar cI 7 (fun _ => 0)), (q9, ar cI 7 (fun _ => 0))] H := hP
  have hD : va_D A [(h0, .inr (0, [.ref q1, .ref q5, .int (-9), .int 0, .int 0])), (q1, .inr (1, [.ref q2, .ref q4, .int (-9), .int 0, .long 0, .int 0])), (q2, .inr (2, [.ref q3, .int 0])), (q3, ar cI 7 (fun _ => 0)), (q4, ar cI 7 (fun _ => 0)), (q5, .inr (3, [.int 0, .int 0, .long 0, .ref q6, .ref q7, .ref q8, .ref q9])), (q6, ar cI 7 (fun _ => 0)), (q7, ar cI 7 (fun _ => 0)), (q8, ar cI 7 (fun _ => 0)), (q9, ar cI 7 (fun _ => 0))] := hD
  refine lv_aload_n hx hb dX0_init_32 rfl (lv_at hl 0 rfl) ?_
  refine lv_iconst (v := 0) hx hb dX0_init_33 (by decide) ?_
  refine va_put (ci := 0) (v := .int 0) (ty := tyX0 3) (C := RX0) (T := TX0) (N := 5) hx hb hts iX0 tyX0 tyX0_ok nmX0 hown hK.1 hP hD hS 0 rfl rfl 3 (Nat.le_of_ble_eq_true rfl) k13 (fun _ h9 => h9) rfl (tyX0_ok 3 (Nat.le_of_ble_eq_true rfl)) rfl rfl (Nat.le_of_ble_eq_true rfl) dX0_init_34 (fun H locs hP hD hS => ?_)
  have hP : va_P D vwCl [(h0, .inr (0, [.ref q1, .ref q5, .int (-9), .int 0, .int 0])), (q1, .inr (1, [.ref q2, .ref q4, .int (-9), .int 0, .long 0, .int 0])), (q2, .inr (2, [.ref q3, .int 0])), (q3, ar cI 7 (fun _ => 0)), (q4, ar cI 7 (fun _ => 0)), (q5, .inr (3, [.int 0, .int 0, .long 0, .ref q6, .ref q7, .ref q8, .ref q9])), (q6, ar cI 7 (fun _ => 0)), (q7, ar cI 7 (fun _ => 0)), (q8, ar cI 7 (fun _ => 0)), (q9, ar cI 7 (fun _ => 0))] H := hP
  have hD : va_D A [(h0, .inr (0, [.ref q1, .ref q5, .int (-9), .int 0, .int 0])), (q1, .inr (1, [.ref q2, .ref q4, .int (-9), .int 0, .long 0, .int 0])), (q2, .inr (2, [.ref q3, .int 0])), (q3, ar cI 7 (fun _ => 0)), (q4, ar cI 7 (fun _ => 0)), (q5, .inr (3, [.int 0, .int 0, .long 0, .ref q6, .ref q7, .ref q8, .ref q9])), (q6, ar cI 7 (fun _ => 0)), (q7, ar cI 7 (fun _ => 0)), (q8, ar cI 7 (fun _ => 0)), (q9, ar cI 7 (fun _ => 0))] := hD
  refine lv_aload_n hx hb dX0_init_37 rfl (lv_at hl 0 rfl) ?_
  refine lv_iconst (v := 0) hx hb dX0_init_38 (by decide) ?_
  refine va_put (ci := 0) (v := .int 0) (ty := tyX0 4) (C := RX0) (T := TX0) (N := 5) hx hb hts iX0 tyX0 tyX0_ok nmX0 hown hK.1 hP hD hS 0 rfl rfl 4 (Nat.le_of_ble_eq_true rfl) k14 (fun _ h9 => h9) rfl (tyX0_ok 4 (Nat.le_of_ble_eq_true rfl)) rfl rfl (Nat.le_of_ble_eq_true rfl) dX0_init_39 (fun H locs hP hD hS => ?_)
  have hP : va_P D vwCl [(h0, .inr (0, [.ref q1, .ref q5, .int (-9), .int 0, .int 0])), (q1, .inr (1, [.ref q2, .ref q4, .int (-9), .int 0, .long 0, .int 0])), (q2, .inr (2, [.ref q3, .int 0])), (q3, ar cI 7 (fun _ => 0)), (q4, ar cI 7 (fun _ => 0)), (q5, .inr (3, [.int 0, .int 0, .long 0, .ref q6, .ref q7, .ref q8, .ref q9])), (q6, ar cI 7 (fun _ => 0)), (q7, ar cI 7 (fun _ => 0)), (q8, ar cI 7 (fun _ => 0)), (q9, ar cI 7 (fun _ => 0))] H := hP
  have hD : va_D A [(h0, .inr (0, [.ref q1, .ref q5, .int (-9), .int 0, .int 0])), (q1, .inr (1, [.ref q2, .ref q4, .int (-9), .int 0, .long 0, .int 0])), (q2, .inr (2, [.ref q3, .int 0])), (q3, ar cI 7 (fun _ => 0)), (q4, ar cI 7 (fun _ => 0)), (q5, .inr (3, [.int 0, .int 0, .long 0, .ref q6, .ref q7, .ref q8, .ref q9])), (q6, ar cI 7 (fun _ => 0)), (q7, ar cI 7 (fun _ => 0)), (q8, ar cI 7 (fun _ => 0)), (q9, ar cI 7 (fun _ => 0))] := hD
  refine W.widen (k := 9) (n := 57) (Nat.le_of_ble_eq_true rfl) (Nat.le_of_ble_eq_true rfl) ?_
  exact rt_n hx hb hr hlocks hP hD hS ⟨q1, q2, q3, q4, q5, q6, q7, q8, q9, rfl⟩ dX0_init_42
/-! ===== new TurnQueue$Ringers ===== -/
def n_Ri_init (cI cJ cS : ClassId) (h0 : Nat) : va_W → Prop := fun w => ∃ q1 q2 q3 q4 q5 q6 q7 q8 q9 q10 : Nat, w = [(h0, .inr (5, [.ref q1, .ref q5, .ref q10, .int (-9), .int 0, .int 0, .int (-9), .int (-9)])), (q1, .inr (1, [.ref q2, .ref q4, .int (-9), .int 0, .long 0, .int 0])), (q2, .inr (2, [.ref q3, .int 0])), (q3, ar cI 7 (fun _ => 0)), (q4, ar cI 7 (fun _ => 0)), (q5, .inr (3, [.int 0, .int 0, .long 0, .ref q6, .ref q7, .ref q8, .ref q9])), (q6, ar cI 7 (fun _ => 0)), (q7, ar cI 7 (fun _ => 0)), (q8, ar cI 7 (fun _ => 0)), (q9, ar cI 7 (fun _ => 0)), (q10, arL cJ 60 (fun _ => 0))]
abbrev rm_Ri_init : Room := { frames := 3, cells := 10, slots := 117, locals := 52 }
set_option maxRecDepth 100000 in
set_option maxHeartbeats 4000000 in
theorem c_Ri_init (l : Launch) (D : va_G) (cI cJ cS : ClassId) (h0 : Nat) : Cn l yX5_init wsX5_init rm_Ri_init D cI cJ cS [.ref h0] [(h0, .inr (5, [.null, .null, .null, .int 0, .int 0, .int 0, .int 0, .int 0]))] (n_Ri_init cI cJ cS h0) 10 117 := by
  refine Cn.of (cc := cX5_init) (maxL := 1) (by decide) rfl (Nat.le_of_ble_eq_true rfl) ?_
  intro p e s m args below meth c A ls hE
  obtain ⟨hx, hb, hr, hml, hown, hts, hlocks, hK, hA, hP, hD, hS, hl, hin, hO⟩ := hE
  have hown : s.vm.findClass RX5 = some m.cls := hown
  have hin : meth.name = "<init>" := hin
  have hl : lv_has ls 1 [(0, .ref h0)] := hl
  have iX1 : ∀ w ∈ u_ws RX1 TX1 6, w ∈ wsX5_init := by decide +kernel
  have iX5 : ∀ w ∈ u_ws RX5 TX5 8, w ∈ wsX5_init := by decide +kernel
  have iX3 : ∀ w ∈ u_ws RX3 TX3 7, w ∈ wsX5_init := by decide +kernel
  have k0 := hts (.methodLink RX5 3 objectInit) (by decide +kernel)
  have k1 := hts (.instanceMethod objectInit) (by decide +kernel)
  have k2 := hts (.classLink RX5 9 RX1) (by decide +kernel)
  have k3 := hts (.instantiable RX1 6) (by decide +kernel)
  have k4 := hts (.initialized RX1) (by decide +kernel)
  have k5 := hts (.instanceMethod yX1_init) (by decide +kernel)
  have k6 := hts (.fieldLink RX5 12 "TurnQueue$Ringers" "counter" "LTurnQueue$Counter;") (by decide +kernel)
  have k7 := hts (.classLink RX5 18 RX3) (by decide +kernel)
  have k8 := hts (.instantiable RX3 7) (by decide +kernel)
  have k9 := hts (.initialized RX3) (by decide +kernel)
  have k10 := hts (.instanceMethod yX3_init) (by decide +kernel)
  have k11 := hts (.fieldLink RX5 21 "TurnQueue$Ringers" "guess" "LTurnQueue$Plan;") (by decide +kernel)
  have k12 := hts (.arrayClass .long) (by decide +kernel)
  have k13 := hts (.fieldLink RX5 25 "TurnQueue$Ringers" "turnableBehind" "[J") (by decide +kernel)
  have k14 := hts (.fieldLink RX5 29 "TurnQueue$Ringers" "move" "I") (by decide +kernel)
  have k15 := hts (.fieldLink RX5 33 "TurnQueue$Ringers" "servedThen" "I") (by decide +kernel)
  have k16 := hts (.fieldLink RX5 36 "TurnQueue$Ringers" "sets" "I") (by decide +kernel)
  have k17 := hts (.fieldLink RX5 39 "TurnQueue$Ringers" "firstMinute" "I") (by decide +kernel)
  have k18 := hts (.fieldLink RX5 42 "TurnQueue$Ringers" "secondMinute" "I") (by decide +kernel)
  refine lv_aload_n hx hb dX5_init_0 rfl (lv_at hl 0 rfl) ?_
  refine W.objInit hx hb hown k0 k1 (hts _ (List.mem_of_getElem? (i := 3) rfl)) rfl (by rw [hml]; exact hl.1) rfl dX5_init_1 (Nat.le_of_ble_eq_true rfl) (Nat.le_of_ble_eq_true rfl) ?_
  refine W.eq (g2 := F0 m 4 ls []) rfl ?_
  refine lv_aload_n hx hb dX5_init_4 rfl (lv_at hl 0 rfl) ?_
  refine va_new (ci := 1) (fs := [.null, .null, .int 0, .int 0, .long 0, .int 0]) (C := RX1) (T := TX1) (N := 6) hx hb hts iX1 tyX1 tyX1_ok hown k2 k3 k4 hK.1 hP hD hS hA rfl (fun j hj => by rcases (show j = 0 ∨ j = 1 ∨ j = 2 ∨ j = 3 ∨ j = 4 ∨ j = 5 by omega) with rfl | rfl | rfl | rfl | rfl | rfl <;> rfl) (Nat.le_of_ble_eq_true rfl) (Nat.le_of_ble_eq_true rfl) dX5_init_5 (fun q1 H hP hD hS => ?_)
  have hP : va_P D vwCl [(h0, .inr (5, [.null, .null, .null, .int 0, .int 0, .int 0, .int 0, .int 0])), (q1, .inr (1, [.null, .null, .int 0, .int 0, .long 0, .int 0]))] H := hP
  have hD : va_D A [(h0, .inr (5, [.null, .null, .null, .int 0, .int 0, .int 0, .int 0, .int 0])), (q1, .inr (1, [.null, .null, .int 0, .int 0, .long 0, .int 0]))] := hD
  refine lv_dup hx hb dX5_init_8 rfl ?_
  refine af_n (wr := [(h0, .inr (5, [.null, .null, .null, .int 0, .int 0, .int 0, .int 0, .int 0]))]) (va_runIN (As := []) (rest := [.ref q1, .ref h0]) ⟨hx, hb, hml, hown, hts⟩ (c_Co_init l D cI cJ cS q1 _) ⟨va_cnB 0 hts gX5_init_X1_init_n11 rfl rfl rfl hK.2.2.2.2.2.2.2.2.2.2.2.2.2.1 k4 (by decide +kernel) ⟨(Nat.le_of_ble_eq_true rfl), (Nat.le_of_ble_eq_true rfl)⟩, rfl, k5⟩ (pre_N hK hO hP hD [1] rfl rfl) rfl rfl hl.1 rfl (lv_room (Nat.le_of_ble_eq_true rfl)) dX5_init_9 ⟨(Nat.le_of_ble_eq_true rfl), (Nat.le_of_ble_eq_true rfl)⟩) hP hD hS hA [1] [0] rfl rfl rfl (by decide) (fun w H locs hw hP hD hS => ?_)
  obtain ⟨q2, q3, q4, rfl⟩ := hw
  have hP : va_P D vwCl [(h0, .inr (5, [.null, .null, .null, .int 0, .int 0, .int 0, .int 0, .int 0])), (q1, .inr (1, [.ref q2, .ref q4, .int (-9), .int 0, .long 0, .int 0])), (q2, .inr (2, [.ref q3, .int 0])), (q3, ar cI 7 (fun _ => 0)), (q4, ar cI 7 (fun _ => 0))] H := hP
  have hD : va_D A [(h0, .inr (5, [.null, .null, .null, .int 0, .int 0, .int 0, .int 0, .int 0])), (q1, .inr (1, [.ref q2, .ref q4, .int (-9), .int 0, .long 0, .int 0])), (q2, .inr (2, [.ref q3, .int 0])), (q3, ar cI 7 (fun _ => 0)), (q4, ar cI 7 (fun _ => 0))] := hD
  refine va_putF (ci := 5) (v := .ref q1) (ty := tyX5 0) (C := RX5) (T := TX5) (N := 8) hx hb hts iX5 tyX5 tyX5_ok nmX5 hown hK.1 hP hD hS 0 rfl rfl 0 (Nat.le_of_ble_eq_true rfl) k6 (fun _ h9 => h9) rfl hin rfl (tyX5_ok 0 (Nat.le_of_ble_eq_true rfl)) rfl rfl (Nat.le_of_ble_eq_true rfl) dX5_init_12 (fun H locs hP hD hS => ?_)
  have hP : va_P D vwCl [(h0, .inr (5, [.ref q1, .null, .null, .int 0, .int 0, .int 0, .int 0, .int 0])), (q1, .inr (1, [.ref q2, .ref q4, .int (-9), .int 0, .long 0, .int 0])), (q2, .inr (2, [.ref q3, .int 0])), (q3, ar cI 7 (fun _ => 0)), (q4, ar cI 7 (fun _ => 0))] H := hP
  have hD : va_D A [(h0, .inr (5, [.ref q1, .null, .null, .int 0, .int 0, .int 0, .int 0, .int 0])), (q1, .inr (1, [.ref q2, .ref q4, .int (-9), .int 0, .long 0, .int 0])), (q2, .inr (2, [.ref q3, .int 0])), (q3, ar cI 7 (fun _ => 0)), (q4, ar cI 7 (fun _ => 0))] := hD
  refine lv_aload_n hx hb dX5_init_15 rfl (lv_at hl 0 rfl) ?_
  refine va_new (ci := 3) (fs := [.int 0, .int 0, .long 0, .null, .null, .null, .null]) (C := RX3) (T := TX3) (N := 7) hx hb hts iX3 tyX3 tyX3_ok hown k7 k8 k9 hK.1 hP hD hS hA rfl (fun j hj => by rcases (show j = 0 ∨ j = 1 ∨ j = 2 ∨ j = 3 ∨ j = 4 ∨ j = 5 ∨ j = 6 by omega) with rfl | rfl | rfl | rfl | rfl | rfl | rfl <;> rfl) (Nat.le_of_ble_eq_true rfl) (Nat.le_of_ble_eq_true rfl) dX5_init_16 (fun q5 H hP hD hS => ?_)
  have hP : va_P D vwCl [(h0, .inr (5, [.ref q1, .null, .null, .int 0, .int 0, .int 0, .int 0, .int 0])), (q1, .inr (1, [.ref q2, .ref q4, .int (-9), .int 0, .long 0, .int 0])), (q2, .inr (2, [.ref q3, .int 0])), (q3, ar cI 7 (fun _ => 0)), (q4, ar cI 7 (fun _ => 0)), (q5, .inr (3, [.int 0, .int 0, .long 0, .null, .null, .null, .null]))] H := hP
  have hD : va_D A [(h0, .inr (5, [.ref q1, .null, .null, .int 0, .int 0, .int 0, .int 0, .int 0])), (q1, .inr (1, [.ref q2, .ref q4, .int (-9), .int 0, .long 0, .int 0])), (q2, .inr (2, [.ref q3, .int 0])), (q3, ar cI 7 (fun _ => 0)), (q4, ar cI 7 (fun _ => 0)), (q5, .inr (3, [.int 0, .int 0, .long 0, .null, .null, .null, .null]))] := hD
  refine lv_dup hx hb dX5_init_19 rfl ?_
  refine af_n (wr := [(h0, .inr (5, [.ref q1, .null, .null, .int 0, .int 0, .int 0, .int 0, .int 0])), (q1, .inr (1, [.ref q2, .ref q4, .int (-9), .int 0, .long 0, .int 0])), (q2, .inr (2, [.ref q3, .int 0])), (q3, ar cI 7 (fun _ => 0)), (q4, ar cI 7 (fun _ => 0))]) (va_runIN (As := []) (rest := [.ref q5, .ref h0]) ⟨hx, hb, hml, hown, hts⟩ (c_Pl_init l D cI cJ cS q5 _) ⟨va_cnB 0 hts gX5_init_X3_init_n20 rfl rfl rfl hK.2.2.2.2.2.2.2.2.2.2.2.2.2.2.1 k9 (by decide +kernel) ⟨(Nat.le_of_ble_eq_true rfl), (Nat.le_of_ble_eq_true rfl)⟩, rfl, k10⟩ (pre_N hK hO hP hD [5] rfl rfl) rfl rfl hl.1 rfl (lv_room (Nat.le_of_ble_eq_true rfl)) dX5_init_20 ⟨(Nat.le_of_ble_eq_true rfl), (Nat.le_of_ble_eq_true rfl)⟩) hP hD hS hA [5] [0, 1, 2, 3, 4] rfl rfl rfl (by decide) (fun w H locs hw hP hD hS => ?_)
  obtain ⟨q6, q7, q8, q9, rfl⟩ := hw
  have hP : va_P D vwCl [(h0, .inr (5, [.ref q1, .null, .null, .int 0, .int 0, .int 0, .int 0, .int 0])), (q1, .inr (1, [.ref q2, .ref q4, .int (-9), .int 0, .long 0, .int 0])), (q2, .inr (2, [.ref q3, .int 0])), (q3, ar cI 7 (fun _ => 0)), (q4, ar cI 7 (fun _ => 0)), (q5, .inr (3, [.int 0, .int 0, .long 0, .ref q6, .ref q7, .ref q8, .ref q9])), (q6, ar cI 7 (fun _ => 0)), (q7, ar cI 7 (fun _ => 0)), (q8, ar cI 7 (fun _ => 0)), (q9, ar cI 7 (fun _ => 0))] H := hP
  have hD : va_D A [(h0, .inr (5, [.ref q1, .null, .null, .int 0, .int 0, .int 0, .int 0, .int 0])), (q1, .inr (1, [.ref q2, .ref q4, .int (-9), .int 0, .long 0, .int 0])), (q2, .inr (2, [.ref q3, .int 0])), (q3, ar cI 7 (fun _ => 0)), (q4, ar cI 7 (fun _ => 0)), (q5, .inr (3, [.int 0, .int 0, .long 0, .ref q6, .ref q7, .ref q8, .ref q9])), (q6, ar cI 7 (fun _ => 0)), (q7, ar cI 7 (fun _ => 0)), (q8, ar cI 7 (fun _ => 0)), (q9, ar cI 7 (fun _ => 0))] := hD
  refine va_putF (ci := 5) (v := .ref q5) (ty := tyX5 1) (C := RX5) (T := TX5) (N := 8) hx hb hts iX5 tyX5 tyX5_ok nmX5 hown hK.1 hP hD hS 0 rfl rfl 1 (Nat.le_of_ble_eq_true rfl) k11 (fun _ h9 => h9) rfl hin rfl (tyX5_ok 1 (Nat.le_of_ble_eq_true rfl)) rfl rfl (Nat.le_of_ble_eq_true rfl) dX5_init_23 (fun H locs hP hD hS => ?_)
  have hP : va_P D vwCl [(h0, .inr (5, [.ref q1, .ref q5, .null, .int 0, .int 0, .int 0, .int 0, .int 0])), (q1, .inr (1, [.ref q2, .ref q4, .int (-9), .int 0, .long 0, .int 0])), (q2, .inr (2, [.ref q3, .int 0])), (q3, ar cI 7 (fun _ => 0)), (q4, ar cI 7 (fun _ => 0)), (q5, .inr (3, [.int 0, .int 0, .long 0, .ref q6, .ref q7, .ref q8, .ref q9])), (q6, ar cI 7 (fun _ => 0)), (q7, ar cI 7 (fun _ => 0)), (q8, ar cI 7 (fun _ => 0)), (q9, ar cI 7 (fun _ => 0))] H := hP
  have hD : va_D A [(h0, .inr (5, [.ref q1, .ref q5, .null, .int 0, .int 0, .int 0, .int 0, .int 0])), (q1, .inr (1, [.ref q2, .ref q4, .int (-9), .int 0, .long 0, .int 0])), (q2, .inr (2, [.ref q3, .int 0])), (q3, ar cI 7 (fun _ => 0)), (q4, ar cI 7 (fun _ => 0)), (q5, .inr (3, [.int 0, .int 0, .long 0, .ref q6, .ref q7, .ref q8, .ref q9])), (q6, ar cI 7 (fun _ => 0)), (q7, ar cI 7 (fun _ => 0)), (q8, ar cI 7 (fun _ => 0)), (q9, ar cI 7 (fun _ => 0))] := hD
  refine lv_aload_n hx hb dX5_init_26 rfl (lv_at hl 0 rfl) ?_
  refine lv_bipush (v := 60) hx hb dX5_init_27 (by decide) ?_
  refine va_newa (atype := .long) (ty := .long) (N' := 60) (a0 := (60, .inr (.inl (fun _ => 0)))) hx hb k12 rfl hK.1 hP hD hS hA (fun _ => rfl) (by decide) (by decide) (by decide) (Nat.le_of_ble_eq_true rfl) (Nat.le_of_ble_eq_true rfl) dX5_init_29 (fun q10 cA H hKx hP hD hS => ?_)
  have ecA := kJ hKx
  subst ecA
  have hP : va_P D vwCl [(h0, .inr (5, [.ref q1, .ref q5, .null, .int 0, .int 0, .int 0, .int 0, .int 0])), (q1, .inr (1, [.ref q2, .ref q4, .int (-9), .int 0, .long 0, .int 0])), (q2, .inr (2, [.ref q3, .int 0])), (q3, ar cI 7 (fun _ => 0)), (q4, ar cI 7 (fun _ => 0)), (q5, .inr (3, [.int 0, .int 0, .long 0, .ref q6, .ref q7, .ref q8, .ref q9])), (q6, ar cI 7 (fun _ => 0)), (q7, ar cI 7 (fun _ => 0)), (q8, ar cI 7 (fun _ => 0)), (q9, ar cI 7 (fun _ => 0)), (q10, arL cJ 60 (fun _ => 0))] H := hP
  have hD : va_D A [(h0, .inr (5, [.ref q1, .ref q5, .null, .int 0, .int 0, .int 0, .int 0, .int 0])), (q1, .inr (1, [.ref q2, .ref q4, .int (-9), .int 0, .long 0, .int 0])), (q2, .inr (2, [.ref q3, .int 0])), (q3, ar cI 7 (fun _ => 0)), (q4, ar cI 7 (fun _ => 0)), (q5, .inr (3, [.int 0, .int 0, .long 0, .ref q6, .ref q7, .ref q8, .ref q9])), (q6, ar cI 7 (fun _ => 0)), (q7, ar cI 7 (fun _ => 0)), (q8, ar cI 7 (fun _ => 0)), (q9, ar cI 7 (fun _ => 0)), (q10, arL cJ 60 (fun _ => 0))] := hD
  refine va_putF (ci := 5) (v := .ref q10) (ty := tyX5 2) (C := RX5) (T := TX5) (N := 8) hx hb hts iX5 tyX5 tyX5_ok nmX5 hown hK.1 hP hD hS 0 rfl rfl 2 (Nat.le_of_ble_eq_true rfl) k13 (fun _ h9 => h9) rfl hin rfl (tyX5_ok 2 (Nat.le_of_ble_eq_true rfl)) rfl rfl (Nat.le_of_ble_eq_true rfl) dX5_init_31 (fun H locs hP hD hS => ?_)
  have hP : va_P D vwCl [(h0, .inr (5, [.ref q1, .ref q5, .ref q10, .int 0, .int 0, .int 0, .int 0, .int 0])), (q1, .inr (1, [.ref q2, .ref q4, .int (-9), .int 0, .long 0, .int 0])), (q2, .inr (2, [.ref q3, .int 0])), (q3, ar cI 7 (fun _ => 0)), (q4, ar cI 7 (fun _ => 0)), (q5, .inr (3, [.int 0, .int 0, .long 0, .ref q6, .ref q7, .ref q8, .ref q9])), (q6, ar cI 7 (fun _ => 0)), (q7, ar cI 7 (fun _ => 0)), (q8, ar cI 7 (fun _ => 0)), (q9, ar cI 7 (fun _ => 0)), (q10, arL cJ 60 (fun _ => 0))] H := hP
  have hD : va_D A [(h0, .inr (5, [.ref q1, .ref q5, .ref q10, .int 0, .int 0, .int 0, .int 0, .int 0])), (q1, .inr (1, [.ref q2, .ref q4, .int (-9), .int 0, .long 0, .int 0])), (q2, .inr (2, [.ref q3, .int 0])), (q3, ar cI 7 (fun _ => 0)), (q4, ar cI 7 (fun _ => 0)), (q5, .inr (3, [.int 0, .int 0, .long 0, .ref q6, .ref q7, .ref q8, .ref q9])), (q6, ar cI 7 (fun _ => 0)), (q7, ar cI 7 (fun _ => 0)), (q8, ar cI 7 (fun _ => 0)), (q9, ar cI 7 (fun _ => 0)), (q10, arL cJ 60 (fun _ => 0))] := hD
  refine lv_aload_n hx hb dX5_init_34 rfl (lv_at hl 0 rfl) ?_
  refine lv_bipush (v := (-9)) hx hb dX5_init_35 (by decide) ?_
  refine va_put (ci := 5) (v := .int (-9)) (ty := tyX5 3) (C := RX5) (T := TX5) (N := 8) hx hb hts iX5 tyX5 tyX5_ok nmX5 hown hK.1 hP hD hS 0 rfl rfl 3 (Nat.le_of_ble_eq_true rfl) k14 (fun _ h9 => h9) rfl (tyX5_ok 3 (Nat.le_of_ble_eq_true rfl)) rfl rfl (Nat.le_of_ble_eq_true rfl) dX5_init_37 (fun H locs hP hD hS => ?_)
  have hP : va_P D vwCl [(h0, .inr (5, [.ref q1, .ref q5, .ref q10, .int (-9), .int 0, .int 0, .int 0, .int 0])), (q1, .inr (1, [.ref q2, .ref q4, .int (-9), .int 0, .long 0, .int 0])), (q2, .inr (2, [.ref q3, .int 0])), (q3, ar cI 7 (fun _ => 0)), (q4, ar cI 7 (fun _ => 0)), (q5, .inr (3, [.int 0, .int 0, .long 0, .ref q6, .ref q7, .ref q8, .ref q9])), (q6, ar cI 7 (fun _ => 0)), (q7, ar cI 7 (fun _ => 0)), (q8, ar cI 7 (fun _ => 0)), (q9, ar cI 7 (fun _ => 0)), (q10, arL cJ 60 (fun _ => 0))] H := hP
  have hD : va_D A [(h0, .inr (5, [.ref q1, .ref q5, .ref q10, .int (-9), .int 0, .int 0, .int 0, .int 0])), (q1, .inr (1, [.ref q2, .ref q4, .int (-9), .int 0, .long 0, .int 0])), (q2, .inr (2, [.ref q3, .int 0])), (q3, ar cI 7 (fun _ => 0)), (q4, ar cI 7 (fun _ => 0)), (q5, .inr (3, [.int 0, .int 0, .long 0, .ref q6, .ref q7, .ref q8, .ref q9])), (q6, ar cI 7 (fun _ => 0)), (q7, ar cI 7 (fun _ => 0)), (q8, ar cI 7 (fun _ => 0)), (q9, ar cI 7 (fun _ => 0)), (q10, arL cJ 60 (fun _ => 0))] := hD
  refine lv_aload_n hx hb dX5_init_40 rfl (lv_at hl 0 rfl) ?_
  refine lv_iconst (v := 0) hx hb dX5_init_41 (by decide) ?_
  refine va_put (ci := 5) (v := .int 0) (ty := tyX5 4) (C := RX5) (T := TX5) (N := 8) hx hb hts iX5 tyX5 tyX5_ok nmX5 hown hK.1 hP hD hS 0 rfl rfl 4 (Nat.le_of_ble_eq_true rfl) k15 (fun _ h9 => h9) rfl (tyX5_ok 4 (Nat.le_of_ble_eq_true rfl)) rfl rfl (Nat.le_of_ble_eq_true rfl) dX5_init_42 (fun H locs hP hD hS => ?_)
  have hP : va_P D vwCl [(h0, .inr (5, [.ref q1, .ref q5, .ref q10, .int (-9), .int 0, .int 0, .int 0, .int 0])), (q1, .inr (1, [.ref q2, .ref q4, .int (-9), .int 0, .long 0, .int 0])), (q2, .inr (2, [.ref q3, .int 0])), (q3, ar cI 7 (fun _ => 0)), (q4, ar cI 7 (fun _ => 0)), (q5, .inr (3, [.int 0, .int 0, .long 0, .ref q6, .ref q7, .ref q8, .ref q9])), (q6, ar cI 7 (fun _ => 0)), (q7, ar cI 7 (fun _ => 0)), (q8, ar cI 7 (fun _ => 0)), (q9, ar cI 7 (fun _ => 0)), (q10, arL cJ 60 (fun _ => 0))] H := hP
  have hD : va_D A [(h0, .inr (5, [.ref q1, .ref q5, .ref q10, .int (-9), .int 0, .int 0, .int 0, .int 0])), (q1, .inr (1, [.ref q2, .ref q4, .int (-9), .int 0, .long 0, .int 0])), (q2, .inr (2, [.ref q3, .int 0])), (q3, ar cI 7 (fun _ => 0)), (q4, ar cI 7 (fun _ => 0)), (q5, .inr (3, [.int 0, .int 0, .long 0, .ref q6, .ref q7, .ref q8, .ref q9])), (q6, ar cI 7 (fun _ => 0)), (q7, ar cI 7 (fun _ => 0)), (q8, ar cI 7 (fun _ => 0)), (q9, ar cI 7 (fun _ => 0)), (q10, arL cJ 60 (fun _ => 0))] := hD
  refine lv_aload_n hx hb dX5_init_45 rfl (lv_at hl 0 rfl) ?_
  refine lv_iconst (v := 0) hx hb dX5_init_46 (by decide) ?_
  refine va_put (ci := 5) (v := .int 0) (ty := tyX5 5) (C := RX5) (T := TX5) (N := 8) hx hb hts iX5 tyX5 tyX5_ok nmX5 hown hK.1 hP hD hS 0 rfl rfl 5 (Nat.le_of_ble_eq_true rfl) k16 (fun _ h9 => h9) rfl (tyX5_ok 5 (Nat.le_of_ble_eq_true rfl)) rfl rfl (Nat.le_of_ble_eq_true rfl) dX5_init_47 (fun H locs hP hD hS => ?_)
  have hP : va_P D vwCl [(h0, .inr (5, [.ref q1, .ref q5, .ref q10, .int (-9), .int 0, .int 0, .int 0, .int 0])), (q1, .inr (1, [.ref q2, .ref q4, .int (-9), .int 0, .long 0, .int 0])), (q2, .inr (2, [.ref q3, .int 0])), (q3, ar cI 7 (fun _ => 0)), (q4, ar cI 7 (fun _ => 0)), (q5, .inr (3, [.int 0, .int 0, .long 0, .ref q6, .ref q7, .ref q8, .ref q9])), (q6, ar cI 7 (fun _ => 0)), (q7, ar cI 7 (fun _ => 0)), (q8, ar cI 7 (fun _ => 0)), (q9, ar cI 7 (fun _ => 0)), (q10, arL cJ 60 (fun _ => 0))] H := hP
  have hD : va_D A [(h0, .inr (5, [.ref q1, .ref q5, .ref q10, .int (-9), .int 0, .int 0, .int 0, .int 0])), (q1, .inr (1, [.ref q2, .ref q4, .int (-9), .int 0, .long 0, .int 0])), (q2, .inr (2, [.ref q3, .int 0])), (q3, ar cI 7 (fun _ => 0)), (q4, ar cI 7 (fun _ => 0)), (q5, .inr (3, [.int 0, .int 0, .long 0, .ref q6, .ref q7, .ref q8, .ref q9])), (q6, ar cI 7 (fun _ => 0)), (q7, ar cI 7 (fun _ => 0)), (q8, ar cI 7 (fun _ => 0)), (q9, ar cI 7 (fun _ => 0)), (q10, arL cJ 60 (fun _ => 0))] := hD
  refine lv_aload_n hx hb dX5_init_50 rfl (lv_at hl 0 rfl) ?_
  refine lv_bipush (v := (-9)) hx hb dX5_init_51 (by decide) ?_
  refine va_put (ci := 5) (v := .int (-9)) (ty := tyX5 6) (C := RX5) (T := TX5) (N := 8) hx hb hts iX5 tyX5 tyX5_ok nmX5 hown hK.1 hP hD hS 0 rfl rfl 6 (Nat.le_of_ble_eq_true rfl) k17 (fun _ h9 => h9) rfl (tyX5_ok 6 (Nat.le_of_ble_eq_true rfl)) rfl rfl (Nat.le_of_ble_eq_true rfl) dX5_init_53 (fun H locs hP hD hS => ?_)
  have hP : va_P D vwCl [(h0, .inr (5, [.ref q1, .ref q5, .ref q10, .int (-9), .int 0, .int 0, .int (-9), .int 0])), (q1, .inr (1, [.ref q2, .ref q4, .int (-9), .int 0, .long 0, .int 0])), (q2, .inr (2, [.ref q3, .int 0])), (q3, ar cI 7 (fun _ => 0)), (q4, ar cI 7 (fun _ => 0)), (q5, .inr (3, [.int 0, .int 0, .long 0, .ref q6, .ref q7, .ref q8, .ref q9])), (q6, ar cI 7 (fun _ => 0)), (q7, ar cI 7 (fun _ => 0)), (q8, ar cI 7 (fun _ => 0)), (q9, ar cI 7 (fun _ => 0)), (q10, arL cJ 60 (fun _ => 0))] H := hP
  have hD : va_D A [(h0, .inr (5, [.ref q1, .ref q5, .ref q10, .int (-9), .int 0, .int 0, .int (-9), .int 0])), (q1, .inr (1, [.ref q2, .ref q4, .int (-9), .int 0, .long 0, .int 0])), (q2, .inr (2, [.ref q3, .int 0])), (q3, ar cI 7 (fun _ => 0)), (q4, ar cI 7 (fun _ => 0)), (q5, .inr (3, [.int 0, .int 0, .long 0, .ref q6, .ref q7, .ref q8, .ref q9])), (q6, ar cI 7 (fun _ => 0)), (q7, ar cI 7 (fun _ => 0)), (q8, ar cI 7 (fun _ => 0)), (q9, ar cI 7 (fun _ => 0)), (q10, arL cJ 60 (fun _ => 0))] := hD
  refine lv_aload_n hx hb dX5_init_56 rfl (lv_at hl 0 rfl) ?_
  refine lv_bipush (v := (-9)) hx hb dX5_init_57 (by decide) ?_
  refine va_put (ci := 5) (v := .int (-9)) (ty := tyX5 7) (C := RX5) (T := TX5) (N := 8) hx hb hts iX5 tyX5 tyX5_ok nmX5 hown hK.1 hP hD hS 0 rfl rfl 7 (Nat.le_of_ble_eq_true rfl) k18 (fun _ h9 => h9) rfl (tyX5_ok 7 (Nat.le_of_ble_eq_true rfl)) rfl rfl (Nat.le_of_ble_eq_true rfl) dX5_init_59 (fun H locs hP hD hS => ?_)
  have hP : va_P D vwCl [(h0, .inr (5, [.ref q1, .ref q5, .ref q10, .int (-9), .int 0, .int 0, .int (-9), .int (-9)])), (q1, .inr (1, [.ref q2, .ref q4, .int (-9), .int 0, .long 0, .int 0])), (q2, .inr (2, [.ref q3, .int 0])), (q3, ar cI 7 (fun _ => 0)), (q4, ar cI 7 (fun _ => 0)), (q5, .inr (3, [.int 0, .int 0, .long 0, .ref q6, .ref q7, .ref q8, .ref q9])), (q6, ar cI 7 (fun _ => 0)), (q7, ar cI 7 (fun _ => 0)), (q8, ar cI 7 (fun _ => 0)), (q9, ar cI 7 (fun _ => 0)), (q10, arL cJ 60 (fun _ => 0))] H := hP
  have hD : va_D A [(h0, .inr (5, [.ref q1, .ref q5, .ref q10, .int (-9), .int 0, .int 0, .int (-9), .int (-9)])), (q1, .inr (1, [.ref q2, .ref q4, .int (-9), .int 0, .long 0, .int 0])), (q2, .inr (2, [.ref q3, .int 0])), (q3, ar cI 7 (fun _ => 0)), (q4, ar cI 7 (fun _ => 0)), (q5, .inr (3, [.int 0, .int 0, .long 0, .ref q6, .ref q7, .ref q8, .ref q9])), (q6, ar cI 7 (fun _ => 0)), (q7, ar cI 7 (fun _ => 0)), (q8, ar cI 7 (fun _ => 0)), (q9, ar cI 7 (fun _ => 0)), (q10, arL cJ 60 (fun _ => 0))] := hD
  refine W.widen (k := 10) (n := 117) (Nat.le_of_ble_eq_true rfl) (Nat.le_of_ble_eq_true rfl) ?_
  exact rt_n hx hb hr hlocks hP hD hS ⟨q1, q2, q3, q4, q5, q6, q7, q8, q9, q10, rfl⟩ dX5_init_62

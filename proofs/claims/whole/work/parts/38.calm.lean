/-! ===== all choose when to come ===== -/
def cst (f : Nat → Nat) : Nat → Nat → Nat × Nat → Nat × Nat
  | 0, _, z => z
  | d + 1, i, z => cst f d (i + 1) (if f i < z.2 then (i, f i) else z)
theorem cst_s (f : Nat → Nat) (d i : Nat) (z : Nat × Nat) : cst f (d + 1) i z = cst f d (i + 1) (if f i < z.2 then (i, f i) else z) := rfl
theorem cst_stop {f : Nat → Nat} : ∀ (d i z1 : Nat), cst f d i (z1, 0) = (z1, 0)
  | 0, _, _ => rfl
  | d + 1, i, z1 => by
    rw [cst_s, if_neg (Nat.not_lt_zero _)]
    exact cst_stop d (i + 1) z1
theorem cst_lt {f : Nat → Nat} : ∀ (d i : Nat) (z : Nat × Nat), i + d ≤ 60 → z.1 < 60 → (cst f d i z).1 < 60
  | 0, _, _, _, h => h
  | d + 1, i, z, hd, h => by
    rw [cst_s]
    by_cases c : f i < z.2
    · rw [if_pos c]; exact cst_lt d (i + 1) _ (by omega) (by show i < 60; omega)
    · rw [if_neg c]; exact cst_lt d (i + 1) _ (by omega) h
def wB (P : Pln) (b : Int64) (p m : Nat) : Nat := fB P b p m - m
/-- the minute that one chooses -/
def stl (P : Pln) (b : Int64) (p : Nat) : Nat := (cst (wB P b p) 60 0 (pCm P p, SV P b p - pCm P p)).1
theorem stl_lt {P : Pln} (hP : pOK P) (b : Int64) {p : Nat} (hp : p < pCnt P) : stl P b p < 60 := cst_lt 60 0 _ (by omega) (hP.2.2 p hp).2.1
section
variable {P : Pln} {law cnt : Int32} {kinds comes wants outs : Nat → Int32} {b : Int64} {p : Nat}
theorem Ch_otw_loop (hP : pOK P) (hp : p < pCnt P) (hR : RP P law cnt kinds comes wants outs) (was : Int32) :
    ∀ (d i z1 z2 : Nat) (bI lI : Int32) (t1 t2 : Int32) (t3 : Int64) (t4 t5 : Int32) (row sa g : Nat → Int32), bI = nI z1 → lI = nI z2 → 60 = i + d → z2 < 200 → (∀ j, j < pCnt P → j ≠ p → g j = comes j) →
      ∃ t1' t2' t3' t4' t5' row' sa' g', Ch_comesOtherwise_l31 (nI p) law cnt b kinds wants outs was bI lI (nI i) t1 t2 t3 t4 t5 row sa g = Ch_comesOtherwise_j94 (nI p) law cnt b kinds wants outs was (nI (cst (wB P b p) d i (z1, z2)).1) t1' t2' t3' t4' t5' row' sa' g' ∧ (∀ j, j < pCnt P → j ≠ p → g' j = comes j)
  | 0, i, z1, z2, bI, lI, t1, t2, t3, t4, t5, row, sa, g, hb, hl, hd, hz2, hg => by
    subst hb hl
    rw [Ch_comesOtherwise_l31_eq]
    unfold Ch_comesOtherwise_b31
    rw [show (60 : Int32) = nI 60 from rfl, if_pos (nI_le (by omega) (by omega)), pu_ex]
    exact ⟨_, _, _, _, _, _, _, _, rfl, hg⟩
  | d + 1, i, z1, z2, bI, lI, t1, t2, t3, t4, t5, row, sa, g, hb, hl, hd, hz2, hg => by
    subst hb hl
    have hc := hP.2.1
    rw [Ch_comesOtherwise_l31_eq]
    unfold Ch_comesOtherwise_b31
    rw [show (60 : Int32) = nI 60 from rfl, if_neg (nI_ge (by omega) (by omega))]
    rcases Nat.eq_zero_or_pos z2 with c | c
    · subst c
      rw [if_pos (show nI 0 ≤ 0 by decide), pu_ex, cst_stop]
      exact ⟨_, _, _, _, _, _, _, _, rfl, hg⟩
    · rw [if_neg (nI_nle c (by omega)), if_pos (ck_nI (by omega) (by omega)), nI_clamp (by omega)]
      obtain ⟨o, e1, e2⟩ := Co_servedOf_ok (b := b) (setCm_ok hP (p := p) (m := i) (by omega)) (setCm_RP hR hg) (p := p) hp t1 t2 t3 t4 t5 row sa
      have hf := fB_ge hP b hp (m := i) (by omega)
      have e2 : o.1 = nI (fB P b p i) := e2
      rw [e1]
      simp only [Option.bind_some, lt, pu_if]
      rw [e2, nI_1, pk_sub hf.1]
      simp only [pu_jp, Ch_comesOtherwise_l31_fd, sg_l]
      have hg' : ∀ j, j < pCnt P → j ≠ p → upd g p (nI i) j = comes j := fun j hj hne => by rw [upd_eq, if_neg hne]; exact hg j hj hne
      rw [cst_s]
      by_cases c2 : wB P b p i < z2
      · have c3 : fB P b p i - i < z2 := c2
        rw [if_pos (nI_lt c3 (by omega)), if_pos c2]
        exact Ch_otw_loop hP hp hR was d (i + 1) i (wB P b p i) _ _ _ _ _ _ _ _ _ _ rfl rfl (by omega) (by show fB P b p i - i < 200; omega) hg'
      · have c3 : ¬ fB P b p i - i < z2 := c2
        rw [if_neg (nI_nlt (by omega) (by omega)), if_neg c2]
        exact Ch_otw_loop hP hp hR was d (i + 1) z1 z2 _ _ _ _ _ _ _ _ _ _ rfl rfl (by omega) hz2 hg'
theorem upd_RP (hR : RP P law cnt kinds comes wants outs) {m : Nat} {g : Nat → Int32} (hg : ∀ j, j < pCnt P → j ≠ p → g j = comes j) : RP (setCm P p m) law cnt kinds (upd g p (nI m)) wants outs := setCm_RP hR hg
theorem Ch_otw_ok (hP : pOK P) (hp : p < pCnt P) (hR : RP P law cnt kinds comes wants outs) (t1 t2 : Int32) (t3 : Int64) (t4 t5 : Int32) (row sa : Nat → Int32) :
    ∃ o, Ch_comesOtherwise (nI p) law cnt b kinds wants outs t1 t2 t3 t4 t5 row sa comes = some o ∧ o.1 = (if stl P b p = pCm P p then 0 else 1) ∧ RP (setCm P p (stl P b p)) law cnt kinds o.2.2.2.2.2.2.2.2 wants outs := by
  have hc := hP.2.1
  have hcm := (hP.2.2 p hp).2.1
  have hsv := SV_ge hP b hp
  obtain ⟨oa, ea, ea1⟩ := Co_servedOf_ok (b := b) hP hR hp t1 t2 t3 t4 t5 row sa
  unfold Ch_comesOtherwise
  rw [if_pos (ck_nI (by omega) (by omega)), nI_clamp (by omega), hR.2.2.2.1 p hp, ea]
  simp only [Option.bind_some, lt]
  rw [ea1, pk_sub hsv.1]
  obtain ⟨t1', t2', t3', t4', t5', row', sa', g', e1, e2⟩ := Ch_otw_loop (b := b) hP hp hR (nI (pCm P p)) 60 0 (pCm P p) (SV P b p - pCm P p) _ _ oa.2.1 oa.2.2.1 oa.2.2.2.1 oa.2.2.2.2.1 oa.2.2.2.2.2.1 oa.2.2.2.2.2.2.1 oa.2.2.2.2.2.2.2 comes rfl rfl (by omega) (by omega) (fun j _ _ => rfl)
  have e1 : Ch_comesOtherwise_l31 (nI p) law cnt b kinds wants outs (nI (pCm P p)) (nI (pCm P p)) (nI (SV P b p - pCm P p)) 0 oa.2.1 oa.2.2.1 oa.2.2.2.1 oa.2.2.2.2.1 oa.2.2.2.2.2.1 oa.2.2.2.2.2.2.1 oa.2.2.2.2.2.2.2 comes = Ch_comesOtherwise_j94 (nI p) law cnt b kinds wants outs (nI (pCm P p)) (nI (stl P b p)) t1' t2' t3' t4' t5' row' sa' g' := e1
  have hst := stl_lt hP b hp
  rw [e1]
  unfold Ch_comesOtherwise_j94
  rw [if_pos (ck_nI (by omega) (by omega)), nI_clamp (by omega)]
  have hRP := upd_RP (m := stl P b p) hR e2
  by_cases c : stl P b p = pCm P p
  · rw [if_pos (by rw [c]), if_pos c]
    exact ⟨_, rfl, rfl, hRP⟩
  · rw [if_neg (by rw [nI_eq (by omega) (by omega)]; exact c), if_neg c]
    exact ⟨_, rfl, rfl, hRP⟩
theorem Mo_stl_loop (hP : pOK P) (hp : p < pCnt P) (hR : RP P law cnt kinds comes wants outs) (was : Int32) :
    ∀ (d i z1 z2 : Nat) (lI bI : Int32) (many now dnI : Int32) (g row sa : Nat → Int32), lI = nI z2 → bI = nI z1 → 60 = i + d → z2 < 200 → (∀ j, j < pCnt P → j ≠ p → g j = comes j) →
      ∃ many' now' dn' g' row' sa', Mo_settles_l26 (nI p) cnt law b kinds wants outs was lI bI (nI i) many now dnI g row sa = Mo_settles_j78 (nI p) cnt law b kinds wants outs was (nI (cst (wB P b p) d i (z1, z2)).1) many' now' dn' g' row' sa' ∧ (∀ j, j < pCnt P → j ≠ p → g' j = comes j)
  | 0, i, z1, z2, lI, bI, many, now, dnI, g, row, sa, hl, hb, hd, hz2, hg => by
    subst hb hl
    rw [Mo_settles_l26_eq]
    unfold Mo_settles_b26
    rw [show (60 : Int32) = nI 60 from rfl, if_pos (nI_le (by omega) (by omega)), pu_ex]
    exact ⟨_, _, _, _, _, _, rfl, hg⟩
  | d + 1, i, z1, z2, lI, bI, many, now, dnI, g, row, sa, hl, hb, hd, hz2, hg => by
    subst hb hl
    have hc := hP.2.1
    rw [Mo_settles_l26_eq]
    unfold Mo_settles_b26
    rw [show (60 : Int32) = nI 60 from rfl, if_neg (nI_ge (by omega) (by omega)), if_pos (ck_nI (by omega) (by omega)), nI_clamp (by omega)]
    obtain ⟨many', now', dn', row', sa', e1, e2⟩ := Mo_goNow_ok (b := b) (setCm_ok hP (p := p) (m := i) (by omega)) (setCm_RP hR hg) many now dnI row sa
    have hf := fB_ge hP b hp (m := i) (by omega)
    have e2 : sa' p = nI (fB P b p i) := e2 p hp
    rw [e1]
    simp only [Option.bind_some, lt, if_pos (ck_nI (show p < 7 by omega) (by omega)), pu_if]
    rw [e2, nI_1, pk_sub hf.1]
    simp only [pu_jp, Mo_settles_l26_fd, sg_l]
    have hg' : ∀ j, j < pCnt P → j ≠ p → upd g p (nI i) j = comes j := fun j hj hne => by rw [upd_eq, if_neg hne]; exact hg j hj hne
    rw [cst_s]
    by_cases c2 : wB P b p i < z2
    · have c3 : fB P b p i - i < z2 := c2
      rw [if_neg (nI_ge c3 (by omega)), if_pos c2]
      exact Mo_stl_loop hP hp hR was d (i + 1) i (wB P b p i) _ _ _ _ _ _ _ _ rfl rfl (by omega) (by show fB P b p i - i < 200; omega) hg'
    · have c3 : ¬ fB P b p i - i < z2 := c2
      rw [if_pos (nI_le (by omega) (by omega)), if_neg c2]
      exact Mo_stl_loop hP hp hR was d (i + 1) z1 z2 _ _ _ _ _ _ _ _ rfl rfl (by omega) hz2 hg'
theorem Mo_stl_ok (hP : pOK P) (hp : p < pCnt P) (hR : RP P law cnt kinds comes wants outs) (many now dnI : Int32) (row sa : Nat → Int32) :
    ∃ o, Mo_settles (nI p) cnt law b kinds wants outs many now dnI comes row sa = some o ∧ o.1 = (if stl P b p = pCm P p then 0 else 1) ∧ RP (setCm P p (stl P b p)) law cnt kinds o.2.2.2.2.1 wants outs := by
  have hc := hP.2.1
  have hcm := (hP.2.2 p hp).2.1
  have hsv := SV_ge hP b hp
  obtain ⟨many', now', dn', row', sa', ea, ea1⟩ := Mo_goNow_ok (b := b) hP hR many now dnI row sa
  unfold Mo_settles
  rw [if_pos (ck_nI (by omega) (by omega)), nI_clamp (by omega), hR.2.2.2.1 p hp, ea]
  simp only [Option.bind_some, lt, if_pos (ck_nI (show p < 7 by omega) (by omega))]
  rw [ea1 p hp, pk_sub hsv.1]
  obtain ⟨many2, now2, dn2, g', row2, sa2, e1, e2⟩ := Mo_stl_loop (b := b) hP hp hR (nI (pCm P p)) 60 0 (pCm P p) (SV P b p - pCm P p) _ _ many' now' dn' comes row' sa' rfl rfl (by omega) (by omega) (fun j _ _ => rfl)
  have e1 : Mo_settles_l26 (nI p) cnt law b kinds wants outs (nI (pCm P p)) (nI (SV P b p - pCm P p)) (nI (pCm P p)) 0 many' now' dn' comes row' sa' = Mo_settles_j78 (nI p) cnt law b kinds wants outs (nI (pCm P p)) (nI (stl P b p)) many2 now2 dn2 g' row2 sa2 := e1
  have hst := stl_lt hP b hp
  rw [e1]
  unfold Mo_settles_j78
  rw [if_pos (ck_nI (by omega) (by omega)), nI_clamp (by omega)]
  have hRP := upd_RP (m := stl P b p) hR e2
  by_cases c : stl P b p = pCm P p
  · rw [if_pos (by rw [c]), if_pos c]
    exact ⟨_, rfl, rfl, hRP⟩
  · rw [if_neg (by rw [nI_eq (by omega) (by omega)]; exact c), if_neg c]
    exact ⟨_, rfl, rfl, hRP⟩
end

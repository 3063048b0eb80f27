/-! ===== does running out pay ===== -/
def pst (f : Nat → Nat) : Nat → Nat → Option Nat × Nat → Option Nat × Nat
  | 0, _, z => z
  | d + 1, i, z => pst f d (i + 1) (if f i < z.2 then (some i, f i) else z)
theorem pst_s (f : Nat → Nat) (d i : Nat) (z : Option Nat × Nat) : pst f (d + 1) i z = pst f d (i + 1) (if f i < z.2 then (some i, f i) else z) := rfl
def fR (P : Pln) (b : Int64) (p m : Nat) : Nat := SV (setOt P p (some m)) b p
theorem sOk {P : Pln} (hP : pOK P) {p m : Nat} (hm : m < 60) : pOK (setOt P p (some m)) := setOt_ok hP (fun k e => by cases e; exact hm)
theorem fR_lt {P : Pln} (hP : pOK P) (b : Int64) {p m : Nat} (hp : p < pCnt P) (hm : m < 60) : fR P b p m < 200 := (SV_ge (sOk hP (p := p) hm) b (p := p) hp).2
theorem setOt_RP2 {P : Pln} {law cnt : Int32} {kinds comes wants outs : Nat → Int32} (hR : RP P law cnt kinds comes wants outs) {p m : Nat} {g : Nat → Int32} (hg : ∀ j, j < pCnt P → j ≠ p → g j = outs j) : RP (setOt P p (some m)) law cnt kinds comes wants (upd g p (nI m)) := setOt_RP (v := some m) hR hg
theorem sub_le {N a c : Nat} (hN : N < 1000) (ha : a < 1000) (hc : c < 1000) : nI N - nI a ≤ nI N - nI c ↔ c ≤ a := by
  rw [i_le, pk_sub_toInt (by omega) (by omega), pk_sub_toInt (by omega) (by omega)]
  omega
section
variable {P : Pln} {law cnt : Int32} {kinds comes wants outs : Nat → Int32} {b : Int64} {p : Nat}
theorem Ch_run_loop (hP : pOK P) (hp : p < pCnt P) (u1 u2 : Int32) (u3 : Int64) (u4 u5 u6 u7 : Nat → Int32) (hR : RP P law cnt kinds comes wants outs) :
    ∀ (d i : Nat) (z1 : Option Nat) (z2 : Nat) (bI sI : Int32) (t1 t2 : Int32) (t3 : Int64) (t4 t5 : Int32) (row sa g : Nat → Int32), bI = oI z1 → sI = nI z2 → 60 = i + d → z2 < 200 → (∀ j, j < pCnt P → j ≠ p → g j = outs j) →
      ∃ o, Ch_findRunOut_l29 (nI p) u1 u2 u3 u4 u5 u6 u7 (nI i) bI sI t1 t2 t3 t4 t5 row sa law cnt b kinds comes wants g = some o ∧ o.1 = oI (pst (fR P b p) d i (z1, z2)).1 ∧ o.2.1 = nI (pst (fR P b p) d i (z1, z2)).2
  | 0, i, z1, z2, bI, sI, t1, t2, t3, t4, t5, row, sa, g, hb, hs, hd, hz2, hg => by
    subst hb hs
    rw [Ch_findRunOut_l29_eq]
    unfold Ch_findRunOut_b29
    rw [show (60 : Int32) = nI 60 from rfl, if_pos (nI_le (by omega) (by omega)), pu_rt]
    exact ⟨_, rfl, rfl, rfl⟩
  | d + 1, i, z1, z2, bI, sI, t1, t2, t3, t4, t5, row, sa, g, hb, hs, hd, hz2, hg => by
    subst hb hs
    have hc := hP.2.1
    rw [Ch_findRunOut_l29_eq]
    unfold Ch_findRunOut_b29
    rw [show (60 : Int32) = nI 60 from rfl, if_neg (nI_ge (by omega) (by omega)), if_pos (ck_nI (by omega) (by omega)), nI_clamp (by omega)]
    obtain ⟨o, e1, e2⟩ := Co_servedOf_ok (b := b) (sOk hP (p := p) (m := i) (by omega)) (setOt_RP2 hR hg) (p := p) hp t1 t2 t3 t4 t5 row sa
    have hf := fR_lt hP b hp (m := i) (by omega)
    have e2 : o.1 = nI (fR P b p i) := e2
    rw [e1]
    simp only [Option.bind_some, lt, pu_if]
    rw [e2, nI_1]
    simp only [pu_jp, Ch_findRunOut_l29_fd, sg_l]
    have hg' : ∀ j, j < pCnt P → j ≠ p → upd g p (nI i) j = outs j := fun j hj hne => by rw [upd_eq, if_neg hne]; exact hg j hj hne
    rw [pst_s]
    by_cases c2 : fR P b p i < z2
    · rw [if_pos (nI_lt c2 (by omega)), if_pos c2]
      exact Ch_run_loop hP hp u1 u2 u3 u4 u5 u6 u7 hR d (i + 1) (some i) (fR P b p i) _ _ _ _ _ _ _ _ _ _ (oI_some i).symm rfl (by omega) hf hg'
    · rw [if_neg (nI_nlt (by omega) (by omega)), if_neg c2]
      exact Ch_run_loop hP hp u1 u2 u3 u4 u5 u6 u7 hR d (i + 1) z1 z2 _ _ _ _ _ _ _ _ _ _ rfl rfl (by omega) hz2 hg'
theorem Mo_pays_loop (hP : pOK P) (hp : p < pCnt P) (hR : RP P law cnt kinds comes wants outs) (what was : Int32) {N : Nat} (hN : N < 200) :
    ∀ (d i : Nat) (z1 : Option Nat) (z2 : Nat) (mI bI : Int32) (many now dnI : Int32) (g row sa : Nat → Int32), mI = nI N - nI z2 → bI = oI z1 → 60 = i + d → z2 < 200 → (∀ j, j < pCnt P → j ≠ p → g j = outs j) →
      ∃ many' now' dn' g' row' sa', Mo_pays_l51 (nI p) what cnt law b kinds comes wants (nI N) was mI bI (nI i) many now dnI g row sa = Mo_pays_j100 (nI p) what cnt law b kinds comes wants was (nI N - nI (pst (fR P b p) d i (z1, z2)).2) (oI (pst (fR P b p) d i (z1, z2)).1) many' now' dn' g' row' sa' ∧ (∀ j, j < pCnt P → j ≠ p → g' j = outs j)
  | 0, i, z1, z2, mI, bI, many, now, dnI, g, row, sa, hm, hb, hd, hz2, hg => by
    subst hm hb
    rw [Mo_pays_l51_eq]
    unfold Mo_pays_b51
    rw [show (60 : Int32) = nI 60 from rfl, if_pos (nI_le (by omega) (by omega)), pu_ex]
    exact ⟨_, _, _, _, _, _, rfl, hg⟩
  | d + 1, i, z1, z2, mI, bI, many, now, dnI, g, row, sa, hm, hb, hd, hz2, hg => by
    subst hm hb
    have hc := hP.2.1
    rw [Mo_pays_l51_eq]
    unfold Mo_pays_b51
    rw [show (60 : Int32) = nI 60 from rfl, if_neg (nI_ge (by omega) (by omega)), if_pos (ck_nI (by omega) (by omega)), nI_clamp (by omega)]
    obtain ⟨o, e1, e2⟩ := Mo_servedBy_ok (b := b) (sOk hP (p := p) (m := i) (by omega)) (setOt_RP2 hR hg) (p := p) hp many now dnI row sa
    have hf := fR_lt hP b hp (m := i) (by omega)
    have e2 : o.1 = nI (fR P b p i) := e2
    rw [e1]
    simp only [Option.bind_some, lt, pu_if]
    rw [e2, nI_1]
    simp only [pu_jp, Mo_pays_l51_fd, sg_l]
    have hg' : ∀ j, j < pCnt P → j ≠ p → upd g p (nI i) j = outs j := fun j hj hne => by rw [upd_eq, if_neg hne]; exact hg j hj hne
    rw [pst_s]
    by_cases c2 : fR P b p i < z2
    · rw [if_neg (by rw [sub_le (by omega) (by omega) (by omega)]; omega), if_pos c2]
      exact Mo_pays_loop hP hp hR what was hN d (i + 1) (some i) (fR P b p i) _ _ _ _ _ _ _ _ rfl (oI_some i).symm (by omega) hf hg'
    · rw [if_pos (by rw [sub_le (by omega) (by omega) (by omega)]; omega), if_neg c2]
      exact Mo_pays_loop hP hp hR what was hN d (i + 1) z1 z2 _ _ _ _ _ _ _ _ rfl rfl (by omega) hz2 hg'
end
theorem T_pays {P : Pln} {law cnt mlaw mcnt : Int32} {kinds comes wants outs mkinds mcomes mwants mouts : Nat → Int32} {b : Int64} (hP : pOK P) (hR : RP P law cnt kinds comes wants outs) (hM : RP P mlaw mcnt mkinds mcomes mwants mouts) (x what : Int32) (v1 v2 : Int32) (v3 : Int64) (v4 v5 : Int32) (v6 v7 : Nat → Int32) (s1 s2 t1 t2 : Int32) (t3 : Int64) (t4 t5 : Int32) (row sa : Nat → Int32) (gl gc0 : Int32) (gb : Int64) (gk gc gw go : Nat → Int32) (many now dnI : Int32) (row2 sa2 : Nat → Int32) :
    ∃ o o', Tq_pays x what law cnt b kinds comes wants outs v1 v2 v3 v4 v5 v6 v7 s1 s2 t1 t2 t3 t4 t5 row sa gl gc0 gb gk gc gw go = some o ∧ Mo_pays x what mcnt mlaw b mkinds mcomes mwants many now dnI mouts row2 sa2 = some o' ∧ o.1 = o'.1 ∧ RP P mlaw mcnt mkinds mcomes mwants o'.2.2.2.2.1 := by
  have hc := hP.2.1
  obtain ⟨rfl, rfl, -⟩ := id hR
  obtain ⟨rfl, rfl, -⟩ := id hM
  unfold Tq_pays Mo_pays
  rcases per_cases x hc with ⟨p, hp, e, h1, h2⟩ | ⟨h1, h2⟩
  · rw [h1, h2]
    simp only [Option.bind_some, n10, if_false, if_true]
    subst e
    have hN := (SV_ge hP b hp).2
    have main : (what = 0 ∨ what = 1) → ∃ o o', Tq_pays_j25 (nI p) what (nI (pLaw P)) (nI (pCnt P)) b kinds comes wants outs v1 v2 v3 v4 v5 v6 v7 s1 s2 t1 t2 t3 t4 t5 row sa gl gc0 gb gk gc gw go = some o ∧ ((Mo_servedBy (nI p) b (nI (pCnt P)) (nI (pLaw P)) mkinds mcomes mwants mouts many now dnI row2 sa2).bind fun y7 => if ck (nI p) 7 = true then lt (mouts (nI p).toNatClampNeg) fun y10 => Mo_pays_l51 (nI p) what (nI (pCnt P)) (nI (pLaw P)) b mkinds mcomes mwants y7.1 y10 0 (-9) 0 y7.2.1 y7.2.2.1 y7.2.2.2.1 mouts y7.2.2.2.2.1 y7.2.2.2.2.2 else none) = some o' ∧ o.1 = o'.1 ∧ RP P (nI (pLaw P)) (nI (pCnt P)) mkinds mcomes mwants o'.2.2.2.2.1 := by
      intro hw01
      obtain ⟨k', c', w', r', g1, g2⟩ := takeFrom_ok (nI (pLaw P)) (nI (pCnt P)) b kinds comes wants outs gl gc0 gb gk gc gw go
      have hR' : RP P (nI (pLaw P)) (nI (pCnt P)) k' c' w' r' := RP_same hP hR g2
      obtain ⟨oa, ea, ea1⟩ := Co_servedOf_ok (b := b) hP hR hp t1 t2 t3 t4 t5 row sa
      obtain ⟨oc, ec, ec1⟩ := Co_servedOf_ok (b := b) hP hR hp v1 v2 v3 v4 v5 v6 v7
      obtain ⟨ob, eb, eb1⟩ := Mo_servedBy_ok (b := b) hP hM hp many now dnI row2 sa2
      obtain ⟨o, e1, e2, e3⟩ := Ch_run_loop (b := b) hP hp (nI (pLaw P)) (nI (pCnt P)) b kinds comes wants outs hR' 60 0 none (SV P b p) (-9) oa.1 oa.2.1 oa.2.2.1 oa.2.2.2.1 oa.2.2.2.2.1 oa.2.2.2.2.2.1 oa.2.2.2.2.2.2.1 oa.2.2.2.2.2.2.2 r' rfl ea1 (by omega) hN (fun j _ _ => rfl)
      obtain ⟨many', now', dn', g', row', sa', e4, e5⟩ := Mo_pays_loop (b := b) hP hp hM what (mouts p) hN 60 0 none (SV P b p) 0 (-9) ob.2.1 ob.2.2.1 ob.2.2.2.1 mouts ob.2.2.2.2.1 ob.2.2.2.2.2 (Int32.sub_self _).symm rfl (by omega) hN (fun j _ _ => rfl)
      generalize pst (fR P b p) 60 0 (none, SV P b p) = zz at e2 e3 e4
      unfold Tq_pays_j25 Ch_findRunOut
      rw [g1]
      simp only [Option.bind_some]
      rw [ea]
      simp only [Option.bind_some]
      have e1 : Ch_findRunOut_l29 (nI p) (nI (pLaw P)) (nI (pCnt P)) b kinds comes wants outs 0 (-9) oa.1 oa.2.1 oa.2.2.1 oa.2.2.2.1 oa.2.2.2.2.1 oa.2.2.2.2.2.1 oa.2.2.2.2.2.2.1 oa.2.2.2.2.2.2.2 (nI (pLaw P)) (nI (pCnt P)) b k' c' w' r' = some o := e1
      rw [e1, eb]
      simp only [Option.bind_some, lt]
      rw [if_pos (ck_nI (by omega) (by omega)), nI_clamp (by omega), eb1]
      have e4 : Mo_pays_l51 (nI p) what (nI (pCnt P)) (nI (pLaw P)) b mkinds mcomes mwants (nI (SV P b p)) (mouts p) 0 (-9) 0 ob.2.1 ob.2.2.1 ob.2.2.2.1 mouts ob.2.2.2.2.1 ob.2.2.2.2.2 = _ := e4
      rw [e4]
      unfold Mo_pays_j100
      rw [if_pos (ck_nI (by omega) (by omega)), nI_clamp (by omega)]
      have hRP : RP P (nI (pLaw P)) (nI (pCnt P)) mkinds mcomes mwants (upd g' p (mouts p)) := by
        obtain ⟨q1, q2, q3, q4, q5, q6⟩ := hM
        refine ⟨q1, q2, q3, q4, q5, ?_⟩
        intro j hj
        rw [upd_eq]
        by_cases c : j = p
        · rw [if_pos c, c]; exact q6 p hp
        · rw [if_neg c, e5 j hj c]; exact q6 j hj
      by_cases w0 : what = 0
      · have w1 : ¬ what = 1 := fun z => one_ne0 (z.symm.trans w0)
        rw [if_pos w0, if_neg w1, ec]
        simp only [Option.bind_some]
        refine ⟨_, _, rfl, rfl, ?_, hRP⟩
        dsimp only
        rw [ec1, e3]
      · have w1 : what = 1 := hw01.resolve_left w0
        rw [if_neg w0, if_pos w1]
        refine ⟨_, _, rfl, rfl, ?_, hRP⟩
        dsimp only
        exact e2
    rcases what_cases what with ⟨w, h3⟩ | ⟨w, h3⟩ | ⟨w0, w1, h3⟩
    · rw [h3, if_pos w]
      simp only [Option.bind_some, n10, if_false]
      exact main (Or.inl w)
    · have w0 : ¬ what = 0 := fun z => one_ne0 (w.symm.trans z)
      rw [h3, if_neg w0, if_pos w]
      simp only [Option.bind_some, n10, if_false]
      exact main (Or.inr w)
    · rw [h3, if_neg w0, if_neg w1]
      simp only [Option.bind_some, if_true]
      exact ⟨_, _, rfl, rfl, rfl, hM⟩
  · rw [h1, h2]
    simp only [Option.bind_some, n10, if_false, if_true]
    exact ⟨_, _, rfl, rfl, rfl, hM⟩

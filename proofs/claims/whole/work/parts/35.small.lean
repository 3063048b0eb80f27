/-! ===== persons, minutes, ranges ===== -/
theorem n10 : ((1 : Int32) = 0) = False := eq_false (by decide)
theorem w_int (x : Int32) : x.toInt64.toInt = x.toInt := Int32.toInt_toInt64 x
theorem i_lt {a b : Int32} : a < b ↔ a.toInt < b.toInt := Int32.lt_iff_toInt_lt
theorem i_le {a b : Int32} : a ≤ b ↔ a.toInt ≤ b.toInt := Int32.le_iff_toInt_le
theorem l_lt {a b : Int64} : a < b ↔ a.toInt < b.toInt := Int64.lt_iff_toInt_lt
theorem l_le {a b : Int64} : a ≤ b ↔ a.toInt ≤ b.toInt := Int64.le_iff_toInt_le
theorem in_no1 {v l h : Int64} (c : v < l) : Mo_in v l h = some 0 := by
  unfold Mo_in
  rw [if_pos ((lg_cmp_lt v l).mpr c)]
theorem in_no2 {v l h : Int64} (c : h < v) : Mo_in v l h = some 0 := by
  unfold Mo_in
  by_cases c1 : lg_cmp v l < 0
  · rw [if_pos c1]
  · rw [if_neg c1, if_pos ((lg_cmp_gt v h).mpr c)]
theorem in_yes {v l h : Int64} (c1 : ¬ v < l) (c2 : ¬ h < v) : Mo_in v l h = some 1 := by
  unfold Mo_in
  rw [if_neg (fun z => c1 ((lg_cmp_lt v l).mp z)), if_neg (fun z => c2 ((lg_cmp_gt v h).mp z))]
/-- a number is in 0 .. n - 1, or neither side takes it -/
theorem in_cases (x : Int32) {n : Nat} (hn : n < 2 ^ 30) (h : Int64) (hh : h.toInt = (n : Int) - 1) : (∃ k, k < n ∧ x = nI k ∧ Mo_in x.toInt64 0 h = some 1) ∨ ((x < 0 ∨ nI n ≤ x) ∧ Mo_in x.toInt64 0 h = some 0) := by
  have z0 : (0 : Int64).toInt = 0 := by decide
  rcases pk_ix x (n := n) (by omega) with c | c | ⟨k, hk, e⟩
  · refine Or.inr ⟨Or.inl c, in_no1 ?_⟩
    rw [l_lt, w_int, z0]
    have := i_lt.mp c
    have z : (0 : Int32).toInt = 0 := by decide
    omega
  · refine Or.inr ⟨Or.inr c, in_no2 ?_⟩
    rw [l_lt, w_int, hh]
    have := i_le.mp c
    rw [nI_toInt (by omega)] at this
    omega
  · refine Or.inl ⟨k, hk, e, in_yes ?_ ?_⟩
    · rw [l_lt, w_int, z0, e, nI_toInt (by omega)]; omega
    · rw [l_lt, w_int, hh, e, nI_toInt (by omega)]; omega
theorem per_h : ∀ n, n < 8 → ((nI n).toInt64 - 1).toInt = (n : Int) - 1 := by decide +kernel
/-- there is such a person, or both refuse -/
theorem per_cases (x : Int32) {n : Nat} (hn : n ≤ 7) : (∃ k, k < n ∧ x = nI k ∧ Pl_has x (nI n) = some 1 ∧ Mo_noPerson x (nI n) = some 0) ∨ (Pl_has x (nI n) = some 0 ∧ Mo_noPerson x (nI n) = some 1) := by
  unfold Mo_noPerson Pl_has
  rcases in_cases x (n := n) (by omega) _ (per_h n (by omega)) with ⟨k, hk, e, h1⟩ | ⟨c, h1⟩
  · refine Or.inl ⟨k, hk, e, ?_, ?_⟩
    · rw [e, if_neg (nI_pos (by omega)), if_neg (nI_ge hk (by omega))]
    · rw [h1]; rfl
  · refine Or.inr ⟨?_, ?_⟩
    · by_cases c1 : x < 0
      · rw [if_pos c1]
      · rw [if_neg c1, if_pos (c.resolve_left c1)]
    · rw [h1]; rfl
theorem min_cases (x : Int32) : (∃ k, k < 60 ∧ x = nI k ∧ Tq_isMinute x = some 1 ∧ Mo_isMinute x = some 1) ∨ (Tq_isMinute x = some 0 ∧ Mo_isMinute x = some 0) := by
  unfold Mo_isMinute
  rcases in_cases x (n := 60) (by omega) 59 (by decide) with ⟨k, hk, e, h1⟩ | ⟨c, h1⟩
  · refine Or.inl ⟨k, hk, e, by rw [e]; exact isMin_in hk, ?_⟩
    rw [h1]; rfl
  · refine Or.inr ⟨?_, ?_⟩
    · unfold Tq_isMinute
      by_cases c1 : x < 0
      · rw [if_pos c1]
      · rw [if_neg c1, if_pos (show 60 ≤ x from c.resolve_left c1)]
    · rw [h1]; rfl
theorem all_ok {c : Nat} (h : c ≤ 7) : Mo_all (nI c) = some (nI (2 ^ c - 1)) := by
  unfold Mo_all
  rw [everybody_ok c (by omega)]
theorem ever_ok {c : Nat} (h : c ≤ 7) : Pl_everybody (nI c) = some (nI (2 ^ c - 1)) := by
  unfold Pl_everybody
  rw [everybody_ok c (by omega)]
theorem pow7 {c : Nat} (h : c ≤ 7) : 2 ^ c ≤ 128 := Nat.pow_le_pow_right (by decide) (show c ≤ 7 from h)
/-! ===== when one is served: the class, the reference ===== -/
def allW (P : Pln) : Nat → Bool := (2 ^ pCnt P - 1).testBit
def SV (P : Pln) (b : Int64) (p : Nat) : Nat := servedT P (allW P) (bellF b) p
theorem SV_ge {P : Pln} (hP : pOK P) (b : Int64) {p : Nat} (hp : p < pCnt P) : pCm P p ≤ SV P b p ∧ SV P b p < 200 := (servedT_of hP hp (all_bit hp)).2
/-- what a run has found, of those awaited -/
theorem run_found {P : Pln} (hP : pOK P) {s tf M : Nat} {b : Int64} {sv aw : Int32} {tn : Int64} {dn sz : Int32} {row sa : Nat → Int32} (hM : M ≤ 200) (h : RC P s tf b M sv aw tn dn sz row sa) (he : M = 200 ∨ aw = 0) {p : Nat} (hp : p < pCnt P) (hs : s.testBit p = true) (ht : tf.testBit p = true) : sa p = nI (servedT P s.testBit (bellF b) p) := by
  obtain ⟨⟨-, -, -, -, h5, a, h6, h7, h8⟩, -⟩ := h
  have hc := hP.2.1
  rcases he with e | e
  · subst e
    exact h5 p _ (servedT_of hP hp hs).1
  · have ha : a = 0 := by
      rw [e, li0] at h7
      exact ((nI_eq (by omega) (by omega)).mp h7).symm
    have h9 := h8 p (by omega)
    rw [ha, Nat.zero_testBit, ht, Bool.true_and] at h9
    cases hse : (dayAt P s.testBit (bellF b) M).2.2.2 p with
    | none => rw [hse] at h9; cases h9
    | some t =>
      rw [h5 p t hse, servedT_at hP hM hse]
theorem Co_servedOf_ok {P : Pln} {law cnt : Int32} {kinds comes wants outs : Nat → Int32} {b : Int64} (hP : pOK P) (hR : RP P law cnt kinds comes wants outs) {p : Nat} (hp : p < pCnt P) (t1 t2 : Int32) (t3 : Int64) (t4 t5 : Int32) (row sa : Nat → Int32) :
    ∃ o, Co_servedOf (nI p) law cnt b kinds comes wants outs t1 t2 t3 t4 t5 row sa = some o ∧ o.1 = nI (SV P b p) := by
  have hc := hP.2.1
  have h128 := pow7 hc
  have hp2 : 2 ^ p ≤ 128 := Nat.pow_le_pow_right (by decide) (show p ≤ 7 by omega)
  obtain ⟨M, sv', aw', tn', dn', sz', row', sa', g1, g2, g3, g4⟩ := Co_run_ok (s := 2 ^ pCnt P - 1) (tf := 2 ^ p) (L := 199) (b := b) hP hR (by omega) (by omega) (by omega) t1 t2 t3 t4 t5 row sa
  have hf := run_found hP (by omega) g3 (g4.imp (fun z => z) id) hp (all_bit hp) (Nat.testBit_two_pow_self ..)
  unfold Co_servedOf
  rw [hR.2.1, ever_ok hc]
  simp only [Option.bind_some]
  rw [bit_ok p (by omega), ← hR.2.1, show (199 : Int32) = nI 199 from rfl, g2]
  simp only [Option.bind_some]
  rw [if_pos (ck_nI (by omega) (by omega)), nI_clamp (by omega)]
  exact ⟨_, rfl, hf⟩
theorem Mo_goNow_ok {P : Pln} {law cnt : Int32} {kinds comes wants outs : Nat → Int32} {b : Int64} (hP : pOK P) (hR : RP P law cnt kinds comes wants outs) (many now dnI : Int32) (row sa : Nat → Int32) :
    ∃ many' now' dn' row' sa', Mo_goNow cnt law b kinds comes wants outs many now dnI row sa = some (many', now', dn', row', sa') ∧ ∀ p, p < pCnt P → sa' p = nI (SV P b p) := by
  have hc := hP.2.1
  have h128 := pow7 hc
  obtain ⟨many', now', dn', row', sa', g1, g2⟩ := Mo_goDay_ok (s := 2 ^ pCnt P - 1) (b := b) hP hR (by omega) many now dnI row sa
  unfold Mo_goNow
  rw [hR.2.1, all_ok hc]
  simp only [Option.bind_some]
  rw [← hR.2.1, g1]
  refine ⟨many', now', dn', row', sa', rfl, fun p hp => ?_⟩
  rw [g2.2.2.2.2 p (by omega), (servedT_of hP hp (all_bit hp)).1]
  rfl
theorem Mo_servedBy_ok {P : Pln} {law cnt : Int32} {kinds comes wants outs : Nat → Int32} {b : Int64} (hP : pOK P) (hR : RP P law cnt kinds comes wants outs) {p : Nat} (hp : p < pCnt P) (many now dnI : Int32) (row sa : Nat → Int32) :
    ∃ o, Mo_servedBy (nI p) b cnt law kinds comes wants outs many now dnI row sa = some o ∧ o.1 = nI (SV P b p) := by
  have hc := hP.2.1
  have h128 := pow7 hc
  obtain ⟨many', now', dn', row', sa', g1, g2⟩ := Mo_goDay_ok (s := 2 ^ pCnt P - 1) (b := b) hP hR (by omega) many now dnI row sa
  unfold Mo_servedBy
  rw [hR.2.1, all_ok hc]
  simp only [Option.bind_some]
  rw [← hR.2.1, g1]
  simp only [Option.bind_some]
  rw [if_pos (ck_nI (by omega) (by omega)), nI_clamp (by omega)]
  refine ⟨_, rfl, ?_⟩
  show sa' p = _
  rw [g2.2.2.2.2 p (by omega), (servedT_of hP hp (all_bit hp)).1]
  rfl
/-! served -/
theorem T_served {P : Pln} {law cnt mlaw mcnt : Int32} {kinds comes wants outs mkinds mcomes mwants mouts : Nat → Int32} {b : Int64} (hP : pOK P) (hR : RP P law cnt kinds comes wants outs) (hM : RP P mlaw mcnt mkinds mcomes mwants mouts) (x : Int32) (t1 t2 : Int32) (t3 : Int64) (t4 t5 : Int32) (row sa : Nat → Int32) (many now dnI : Int32) (row2 sa2 : Nat → Int32) :
    ∃ o o', Tq_served x law cnt b kinds comes wants outs t1 t2 t3 t4 t5 row sa = some o ∧ Mo_served x mcnt mlaw b mkinds mcomes mwants mouts many now dnI row2 sa2 = some o' ∧ o.1 = o'.1 := by
  have hc := hP.2.1
  obtain ⟨rfl, rfl, -⟩ := id hR
  obtain ⟨rfl, rfl, -⟩ := id hM
  unfold Tq_served Mo_served
  rcases per_cases x hc with ⟨p, hp, e, h1, h2⟩ | ⟨h1, h2⟩
  · obtain ⟨o, e1, e2⟩ := Co_servedOf_ok (b := b) hP hR hp t1 t2 t3 t4 t5 row sa
    obtain ⟨many', now', dn', row', sa', g1, g2⟩ := Mo_goNow_ok (b := b) hP hM many now dnI row2 sa2
    rw [h1, h2]
    simp only [Option.bind_some, n10, if_false, if_true]
    rw [e, e1, g1]
    simp only [Option.bind_some]
    rw [if_pos (ck_nI (by omega) (by omega)), nI_clamp (by omega)]
    refine ⟨_, _, rfl, rfl, ?_⟩
    rw [e2]
    exact (g2 p hp).symm
  · rw [h1, h2]
    simp only [Option.bind_some, n10, if_false, if_true]
    exact ⟨_, _, rfl, rfl, rfl⟩
/-! queue -/
theorem Co_runThrough_ok {P : Pln} {law cnt : Int32} {kinds comes wants outs : Nat → Int32} {b : Int64} (hP : pOK P) (hR : RP P law cnt kinds comes wants outs) {m : Nat} (hm : m < 200) (t1 t2 : Int32) (t3 : Int64) (t4 t5 : Int32) (row sa : Nat → Int32) :
    ∃ sv' aw' tn' dn' sz' row' sa', Co_runThrough (nI m) law cnt b kinds comes wants outs t1 t2 t3 t4 t5 row sa = some (sv', aw', tn', dn', sz', row', sa') ∧ sv' = oI (dayAt P (allW P) (bellF b) (m + 1)).2.1 ∧ sz' = nI (dayAt P (allW P) (bellF b) (m + 1)).1.length ∧ Rq row' (dayAt P (allW P) (bellF b) (m + 1)).1 := by
  have hc := hP.2.1
  have h128 := pow7 hc
  have hpos : 0 < 2 ^ pCnt P := Nat.pow_pos (by decide)
  obtain ⟨M, sv', aw', tn', dn', sz', row', sa', g1, g2, g3, g4⟩ := Co_run_ok (s := 2 ^ pCnt P - 1) (tf := 2 ^ pCnt P) (L := m) (b := b) hP hR (by omega) (by omega) hm t1 t2 t3 t4 t5 row sa
  have hMe : M = m + 1 := by
    rcases g4 with e | e
    · exact e
    · exfalso
      obtain ⟨⟨-, -, -, -, -, a, h6, h7, h8⟩, -⟩ := g3
      have ha : a = 0 := by
        rw [e, li0] at h7
        exact ((nI_eq (by omega) (by omega)).mp h7).symm
      have h9 := h8 (pCnt P) (by omega)
      rw [ha, Nat.zero_testBit, Nat.testBit_two_pow_self, Bool.true_and] at h9
      cases hse : (dayAt P (2 ^ pCnt P - 1).testBit (bellF b) M).2.2.2 (pCnt P) with
      | none => rw [hse] at h9; cases h9
      | some t =>
        have := ((DI_day hP (2 ^ pCnt P - 1).testBit (bellF b) M).2.2.2.1 _ _ hse).1
        omega
  subst hMe
  unfold Co_runThrough
  rw [hR.2.1, ever_ok hc]
  simp only [Option.bind_some]
  rw [nI_1, show 2 ^ pCnt P - 1 + 1 = 2 ^ pCnt P by omega, ← hR.2.1, g2]
  exact ⟨sv', aw', tn', dn', sz', row', sa', rfl, g3.1.2.2.1, g3.1.1, g3.1.2.1⟩
theorem Mo_q_loop {P : Pln} {kinds comes wants outs : Nat → Int32} {b : Int64} (hP : pOK P) (hk : Rn kinds (pKd P) (pCnt P)) (hc : Rn comes (pCm P) (pCnt P)) (hw : Rn wants (pWt P) (pCnt P)) (ho : ∀ p, p < pCnt P → outs p = oI (pOt P p)) {m : Nat} (hm : m < 200) (k : Int32) :
    ∀ (d i : Nat) (many now dnI : Int32) (row sa : Nat → Int32), m + 1 = i + d → RM (dayAt P (allW P) (bellF b) i) many now dnI row sa → ∃ many' now' dn' row' sa', Mo_queue_l25 (nI m) k (nI (pCnt P)) (nI (pLaw P)) b kinds comes wants outs (nI i) many now dnI row sa = Mo_queue_j49 (nI m) k (nI (pCnt P)) (nI (pLaw P)) b kinds comes wants outs many' now' dn' row' sa' ∧ RM (dayAt P (allW P) (bellF b) (m + 1)) many' now' dn' row' sa'
  | 0, i, many, now, dnI, row, sa, hd, h => by
    have : i = m + 1 := by omega
    subst this
    refine ⟨_, _, _, _, _, ?_, h⟩
    rw [Mo_queue_l25_eq]
    unfold Mo_queue_b25
    rw [if_pos (nI_lt (by omega) (by omega)), pu_ex]
  | d + 1, i, many, now, dnI, row, sa, hd, h => by
    have h128 := pow7 hP.2.1
    obtain ⟨many', now', dn', row', sa', e1, e2⟩ := Mo_goMinute_ok (s := 2 ^ pCnt P - 1) (m := i) (b := b) hP hk hc hw ho (by omega) (by omega) (DI_day hP (allW P) (bellF b) i) h
    rw [Mo_queue_l25_eq]
    unfold Mo_queue_b25
    rw [if_neg (nI_nlt (by omega) (by omega)), all_ok hP.2.1]
    simp only [Option.bind_some]
    rw [e1]
    simp only [Option.bind_some, lt, pu_jp, Mo_queue_l25_fd, nI_1]
    exact Mo_q_loop hP hk hc hw ho hm k d (i + 1) many' now' dn' row' sa' (by omega) e2
theorem T_queue {P : Pln} {law cnt mlaw mcnt : Int32} {kinds comes wants outs mkinds mcomes mwants mouts : Nat → Int32} {b : Int64} (hP : pOK P) (hR : RP P law cnt kinds comes wants outs) (hM : RP P mlaw mcnt mkinds mcomes mwants mouts) (x k : Int32) (t1 t2 : Int32) (t3 : Int64) (t4 t5 : Int32) (row sa : Nat → Int32) (many now dnI : Int32) (row2 sa2 : Nat → Int32) :
    ∃ o o', Tq_queue x k law cnt b kinds comes wants outs t1 t2 t3 t4 t5 row sa = some o ∧ Mo_queue x k mcnt mlaw b mkinds mcomes mwants mouts many now dnI row2 sa2 = some o' ∧ o.1 = o'.1 := by
  have hc := hP.2.1
  unfold Tq_queue Mo_queue
  rcases in_cases x (n := 200) (by omega) 199 (by decide) with ⟨m, hm, e, h1⟩ | ⟨c, h1⟩
  · rw [h1]
    simp only [Option.bind_some, n10, if_false]
    rw [e, if_neg (nI_pos (by omega)), show (199 : Int32) = nI 199 from rfl, if_neg (nI_nlt (by omega) (by omega))]
    by_cases ck1 : (-1) ≤ k
    · rw [if_pos ck1, if_pos ck1]
      obtain ⟨sv', aw', tn', dn', sz', row', sa', g1, g2, g3, g4⟩ := Co_runThrough_ok (b := b) hP hR hm t1 t2 t3 t4 t5 row sa
      obtain ⟨f', e1, e2⟩ := Mo_begin_ok many now sa2
      obtain ⟨rfl, rfl, hk, hcm, hw, ho⟩ := hM
      obtain ⟨many', now', dn2, row3, sa3, r1, r2⟩ := Mo_q_loop (b := b) hP hk hcm hw ho hm k (m + 1) 0 0 (-9) dnI row2 f' (by omega) (RM_0 P _ _ dnI row2 e2)
      rw [g1, e1]
      simp only [Option.bind_some]
      have r1 : Mo_queue_l25 (nI m) k (nI (pCnt P)) (nI (pLaw P)) b mkinds mcomes mwants mouts 0 0 (-9) dnI row2 f' = _ := r1
      rw [r1]
      unfold Mo_queue_j49
      obtain ⟨q1, q2, q3, -, -⟩ := r2
      have hD := DI_day hP (allW P) (bellF b) (m + 1)
      have hlen := nd_len hD.1 (fun x hx => (hD.2.1 x hx).1)
      generalize dayAt P (allW P) (bellF b) (m + 1) = S at *
      by_cases c1 : k = -1
      · rw [if_pos c1, if_neg (by rw [c1]; decide)]
        refine ⟨_, _, rfl, rfl, ?_⟩
        show sv' = now'
        rw [g2, q3]
      · rw [if_neg c1]
        have hk0 : ¬ k < 0 := by
          intro z
          apply c1
          apply Int32.toInt_inj.mp
          have z1 := i_le.mp ck1
          have z2 := i_lt.mp z
          have m1 : (-1 : Int32).toInt = -1 := by decide
          have m2 : (0 : Int32).toInt = 0 := by decide
          omega
        have hk1 : 0 ≤ k := by
          rw [i_le]
          have z2 : ¬ k.toInt < (0 : Int32).toInt := fun z => hk0 (i_lt.mpr z)
          omega
        rw [if_pos hk1]
        unfold Li_at
        rw [if_neg hk0, g3, q1]
        rcases pk_ix k (n := S.1.length) (by omega) with z | z | ⟨j, hj, ej⟩
        · exact absurd z hk0
        · rw [if_pos z, if_pos z]
          simp only [Option.bind_some]
          exact ⟨_, _, rfl, rfl, rfl⟩
        · rw [ej, if_neg (nI_ge hj (by omega)), if_neg (nI_ge hj (by omega)), if_pos (ck_nI (by omega) (by omega)), if_pos (ck_nI (by omega) (by omega)), nI_clamp (by omega)]
          simp only [Option.bind_some]
          refine ⟨_, _, rfl, rfl, ?_⟩
          show row' j = row3 j
          have hx : S.1[j]? = some S.1[j] := List.getElem?_eq_getElem hj
          rw [g4 j _ hx, q2 j _ hx]
    · rw [if_neg ck1, if_neg ck1]
      exact ⟨_, _, rfl, rfl, rfl⟩
  · rw [h1]
    simp only [Option.bind_some, if_true]
    by_cases c1 : x < 0
    · rw [if_pos c1]
      exact ⟨_, _, rfl, rfl, rfl⟩
    · rw [if_neg c1]
      have c2 : 199 < x := by
        rw [i_lt]
        have z := i_le.mp (c.resolve_left c1)
        have m1 : (199 : Int32).toInt = 199 := by decide
        rw [nI_toInt (by omega)] at z
        omega
      rw [if_pos c2]
      exact ⟨_, _, rfl, rfl, rfl⟩

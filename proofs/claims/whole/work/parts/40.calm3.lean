theorem T_calm {P : Pln} {law cnt mlaw mcnt : Int32} {kinds comes wants outs mkinds mcomes mwants mouts : Nat → Int32} {b : Int64} (hP : pOK P) (hR : RP P law cnt kinds comes wants outs) (hM : RP P mlaw mcnt mkinds mcomes mwants mouts) (x : Int32) (s1 t1 t2 : Int32) (t3 : Int64) (t4 t5 : Int32) (row sa : Nat → Int32) (gl gc0 : Int32) (gb : Int64) (gk gc gw go : Nat → Int32) (many now dnI : Int32) (row2 sa2 was : Nat → Int32) :
    ∃ o o', Tq_calm x law cnt b kinds comes wants outs s1 t1 t2 t3 t4 t5 row sa gl gc0 gb gk gc gw go = some o ∧ Mo_calm x mcnt mlaw b mkinds mwants mouts many now dnI mcomes row2 sa2 was = some o' ∧ o.1 = o'.1 ∧ RP P mlaw mcnt mkinds o'.2.2.2.2.1 mwants mouts := by
  have hc := hP.2.1
  obtain ⟨rfl, rfl, -⟩ := id hR
  obtain ⟨rfl, rfl, -⟩ := id hM
  have main : (x = -1 ∨ ∃ p, p < pCnt P ∧ x = nI p) → ∃ o o', Tq_calm_j22 x (nI (pLaw P)) (nI (pCnt P)) b kinds comes wants outs s1 t1 t2 t3 t4 t5 row sa gl gc0 gb gk gc gw go = some o ∧ Mo_calm_j19 x (nI (pCnt P)) (nI (pLaw P)) b mkinds mwants mouts many now dnI mcomes row2 sa2 was = some o' ∧ o.1 = o'.1 ∧ RP P (nI (pLaw P)) (nI (pCnt P)) mkinds o'.2.2.2.2.1 mwants mouts := by
    intro hx
    unfold Tq_calm_j22 Mo_calm_j19
    rcases none_cases hc with ⟨c0, h1, h2⟩ | ⟨c0, h1, h2⟩
    · rw [h1, if_pos h2]
      simp only [Option.bind_some, n10, if_false]
      exact ⟨_, _, rfl, rfl, rfl, hM⟩
    · rw [h1, if_neg h2]
      simp only [Option.bind_some, if_true]
      obtain ⟨k', c', w', r', g1, g2⟩ := takeFrom_ok (nI (pLaw P)) (nI (pCnt P)) b kinds comes wants outs gl gc0 gb gk gc gw go
      have hR' : RP P (nI (pLaw P)) (nI (pCnt P)) k' c' w' r' := RP_same hP hR g2
      obtain ⟨o, e1, e2, e3⟩ := Ch_calm_loop (b := b) (nI (pLaw P)) (nI (pCnt P)) b kinds comes wants outs 40 0 P t1 t2 t3 t4 t5 row sa c' hP rfl (by omega) hR'
      obtain ⟨w2, f1, f2⟩ := Mo_was_loop (law := nI (pLaw P)) (kinds := mkinds) (wants := mwants) (outs := mouts) (b := b) hc x many now dnI mcomes row2 sa2 (pCnt P) 0 was (by omega)
      obtain ⟨many', now', dn', g', row', sa', e4, e5⟩ := Mo_calm_loop (b := b) x w2 40 0 P many now dnI mcomes row2 sa2 hP rfl (by omega) hM
      have hq := calR_ok (b := b) 40 0 P hP
      generalize calR b 40 0 P = zz at e2 e3 e4 e5 hq
      unfold Ch_findCalm
      rw [g1]
      simp only [Option.bind_some]
      have e1 : Ch_findCalm_l16 (nI (pLaw P)) (nI (pCnt P)) b kinds comes wants outs 0 (-9) t1 t2 t3 t4 t5 row sa (nI (pLaw P)) (nI (pCnt P)) b k' c' w' r' = some o := e1
      have f1 : Mo_calm_l31 x (nI (pCnt P)) (nI (pLaw P)) b mkinds mwants mouts 0 many now dnI mcomes row2 sa2 was = _ := f1
      have e4 : Mo_calm_l62 x (nI (pCnt P)) (nI (pLaw P)) b mkinds mwants mouts (-9) 0 many now dnI mcomes row2 sa2 w2 = _ := e4
      rw [e1, f1, e4]
      simp only [Option.bind_some]
      unfold Mo_calm_j132
      have hback : ∀ v, ∃ g2, Mo_calm_l150 x (nI (pCnt P)) (nI (pLaw P)) b mkinds mwants mouts v 0 many' now' dn' g' row' sa' w2 = some (v, many', now', dn', g2, row', sa', w2) ∧ RP P (nI (pLaw P)) (nI (pCnt P)) mkinds g2 mwants mouts := by
        intro v
        obtain ⟨g2, q1, q2⟩ := Mo_back_loop (law := nI (pLaw P)) (kinds := mkinds) (wants := mwants) (outs := mouts) (b := b) hc x v many' now' dn' row' sa' w2 (pCnt P) 0 g' (by omega)
        refine ⟨g2, q1, ?_⟩
        obtain ⟨z1, z2, z3, z4, z5, z6⟩ := hM
        refine ⟨z1, z2, z3, ?_, z5, z6⟩
        intro j hj
        rw [q2 j hj, if_pos (Nat.zero_le j), f2 j hj, if_pos (Nat.zero_le j)]
        exact z4 j hj
      rcases hx with hx | ⟨p, hp, hx⟩
      · have hn0 : ¬ 0 ≤ x := by rw [hx]; decide
        rw [if_pos hx, if_neg hn0]
        obtain ⟨g2, q1, q2⟩ := hback (oI zz.2)
        rw [q1]
        refine ⟨_, _, rfl, rfl, ?_, q2⟩
        dsimp only
        exact e2
      · have hn1 : ¬ x = -1 := by
          rw [hx]
          intro z
          have := congrArg Int32.toInt z
          rw [nI_toInt (by omega)] at this
          have m1 : (-1 : Int32).toInt = -1 := by decide
          omega
        have h0 : 0 ≤ x := by rw [hx]; exact nI_pos' (by omega)
        rw [if_neg hn1, if_pos h0, if_pos (by rw [hx]; exact ck_nI (by omega) (by omega)), if_pos (by rw [hx]; exact ck_nI (by omega) (by omega))]
        simp only [lt]
        have hcl : x.toNatClampNeg = p := by rw [hx, nI_clamp (by omega)]
        rw [hcl]
        obtain ⟨g2, q1, q2⟩ := hback (g' p)
        rw [q1]
        refine ⟨_, _, rfl, rfl, ?_, q2⟩
        dsimp only
        rw [e3.2.2.2.1 p (by omega), e5.2.2.2.1 p (by omega)]
  unfold Tq_calm Mo_calm
  by_cases c1 : x < (-1)
  · rw [if_pos c1, if_pos c1]
    exact ⟨_, _, rfl, rfl, rfl, hM⟩
  · rw [if_neg c1, if_neg c1]
    by_cases c2 : x < 0
    · rw [if_pos c2, if_pos c2]
      refine main (Or.inl ?_)
      apply Int32.toInt_inj.mp
      have z1 : ¬ x.toInt < (-1 : Int32).toInt := fun z => c1 (i_lt.mpr z)
      have z2 := i_lt.mp c2
      have m1 : (-1 : Int32).toInt = -1 := by decide
      have m2 : (0 : Int32).toInt = 0 := by decide
      omega
    · rw [if_neg c2, if_neg c2]
      rcases per_cases x hc with ⟨p, hp, e, h1, h2⟩ | ⟨h1, h2⟩
      · rw [h1, h2]
        simp only [Option.bind_some, n10, if_false, if_true]
        exact main (Or.inr ⟨p, hp, e⟩)
      · rw [h1, h2]
        simp only [Option.bind_some, n10, if_false, if_true]
        exact ⟨_, _, rfl, rfl, rfl, hM⟩

/-! ===== what all wait together ===== -/
def wsN (P : Pln) (b : Int64) : Nat → Nat → Nat → Nat
  | 0, _, a => a
  | d + 1, i, a => wsN P b d (i + 1) (a + (SV P b i - pCm P i))
theorem wsN_s (P : Pln) (b : Int64) (d i a : Nat) : wsN P b (d + 1) i a = wsN P b d (i + 1) (a + (SV P b i - pCm P i)) := rfl
theorem wsN_le {P : Pln} (hP : pOK P) (b : Int64) : ∀ (d i a : Nat), pCnt P = i + d → wsN P b d i a ≤ a + 200 * d
  | 0, _, a, _ => Nat.le_refl a
  | d + 1, i, a, h => by
    rw [wsN_s]
    have h1 := wsN_le hP b d (i + 1) (a + (SV P b i - pCm P i)) (by omega)
    have h2 := (SV_ge hP b (p := i) (by omega)).2
    omega
def WA (P : Pln) (b : Int64) : Nat := wsN P b (pCnt P) 0 0
theorem WA_le {P : Pln} (hP : pOK P) (b : Int64) : WA P b ≤ 1400 := by
  have h1 := wsN_le hP b (pCnt P) 0 0 (by omega)
  have h2 := hP.2.1
  unfold WA
  omega
theorem Co_wa_loop {P : Pln} {kinds comes wants outs : Nat → Int32} {law : Int32} {b : Int64} (hP : pOK P) (hc : Rn comes (pCm P) (pCnt P)) (t1 t2 : Int32) (t3 : Int64) (t4 t5 : Int32) (row sa : Nat → Int32) (hs : ∀ p, p < pCnt P → sa p = nI (SV P b p)) :
    ∀ (d i a : Nat), pCnt P = i + d → Co_waitOfAll_l20 law (nI (pCnt P)) b kinds comes wants outs (nI a) (nI i) t1 t2 t3 t4 t5 row sa = some (nI (wsN P b d i a), t1, t2, t3, t4, t5, row, sa)
  | 0, i, a, hd => by
    have h7 := hP.2.1
    rw [Co_waitOfAll_l20_eq]
    unfold Co_waitOfAll_b20
    rw [if_pos (nI_le (by omega) (by omega)), pu_rt]
    rfl
  | d + 1, i, a, hd => by
    have h7 := hP.2.1
    have hv := SV_ge hP b (p := i) (by omega)
    rw [Co_waitOfAll_l20_eq]
    unfold Co_waitOfAll_b20
    simp only [lt]
    rw [if_neg (nI_ge (by omega) (by omega)), if_pos (ck_nI (by omega) (by omega)), if_pos (ck_nI (by omega) (by omega)), nI_clamp (by omega), hs i (by omega), hc i (by omega), pk_sub hv.1, nI_add, nI_1, pu_jp, Co_waitOfAll_l20_fd, Co_wa_loop hP hc t1 t2 t3 t4 t5 row sa hs d (i + 1) _ (by omega), wsN_s]
theorem Co_waitOfAll_ok {P : Pln} {law cnt : Int32} {kinds comes wants outs : Nat → Int32} {b : Int64} (hP : pOK P) (hR : RP P law cnt kinds comes wants outs) (t1 t2 : Int32) (t3 : Int64) (t4 t5 : Int32) (row sa : Nat → Int32) :
    ∃ o, Co_waitOfAll law cnt b kinds comes wants outs t1 t2 t3 t4 t5 row sa = some o ∧ o.1 = nI (WA P b) := by
  have hc := hP.2.1
  have h128 := pow7 hc
  obtain ⟨M, sv', aw', tn', dn', sz', row', sa', g1, g2, g3, g4⟩ := Co_run_ok (s := 2 ^ pCnt P - 1) (tf := 2 ^ pCnt P - 1) (L := 199) (b := b) hP hR (by omega) (by omega) (by omega) t1 t2 t3 t4 t5 row sa
  have hf : ∀ p, p < pCnt P → sa' p = nI (SV P b p) := fun p hp => run_found hP (by omega) g3 (g4.imp (fun z => z) id) hp (all_bit hp) (all_bit hp)
  obtain ⟨rfl, rfl, -⟩ := id hR
  unfold Co_waitOfAll
  rw [ever_ok hc]
  simp only [Option.bind_some]
  rw [show (199 : Int32) = nI 199 from rfl, g2]
  simp only [Option.bind_some]
  have e := Co_wa_loop (law := nI (pLaw P)) (kinds := kinds) (wants := wants) (outs := outs) hP hR.2.2.2.1 sv' aw' tn' dn' sz' row' sa' hf (pCnt P) 0 0 (by omega)
  have e : Co_waitOfAll_l20 (nI (pLaw P)) (nI (pCnt P)) b kinds comes wants outs 0 0 sv' aw' tn' dn' sz' row' sa' = _ := e
  rw [e]
  exact ⟨_, rfl, rfl⟩
theorem Mo_ws_loop {P : Pln} {kinds comes wants outs : Nat → Int32} {law : Int32} {b : Int64} (hP : pOK P) (hc : Rn comes (pCm P) (pCnt P)) (many now dnI : Int32) (row sa : Nat → Int32) (hs : ∀ p, p < pCnt P → sa p = nI (SV P b p)) :
    ∀ (d i a : Nat), pCnt P = i + d → Mo_waitSum_l8 (nI (pCnt P)) law b kinds comes wants outs (nI a) (nI i) many now dnI row sa = some (nI (wsN P b d i a), many, now, dnI, row, sa)
  | 0, i, a, hd => by
    have h7 := hP.2.1
    rw [Mo_waitSum_l8_eq]
    unfold Mo_waitSum_b8
    rw [if_pos (nI_le (by omega) (by omega)), pu_rt]
    rfl
  | d + 1, i, a, hd => by
    have h7 := hP.2.1
    have hv := SV_ge hP b (p := i) (by omega)
    rw [Mo_waitSum_l8_eq]
    unfold Mo_waitSum_b8
    simp only [lt]
    rw [if_neg (nI_ge (by omega) (by omega)), if_pos (ck_nI (by omega) (by omega)), if_pos (ck_nI (by omega) (by omega)), nI_clamp (by omega), hs i (by omega), hc i (by omega), pk_sub hv.1, nI_add, nI_1, pu_jp, Mo_waitSum_l8_fd, Mo_ws_loop hP hc many now dnI row sa hs d (i + 1) _ (by omega), wsN_s]
theorem Mo_waitSum_ok {P : Pln} {law cnt : Int32} {kinds comes wants outs : Nat → Int32} {b : Int64} (hP : pOK P) (hR : RP P law cnt kinds comes wants outs) (many now dnI : Int32) (row sa : Nat → Int32) :
    ∃ o, Mo_waitSum cnt law b kinds comes wants outs many now dnI row sa = some o ∧ o.1 = nI (WA P b) := by
  obtain ⟨many', now', dn', row', sa', g1, g2⟩ := Mo_goNow_ok (b := b) hP hR many now dnI row sa
  obtain ⟨rfl, rfl, -⟩ := id hR
  unfold Mo_waitSum
  rw [g1]
  simp only [Option.bind_some]
  have e := Mo_ws_loop (law := nI (pLaw P)) (kinds := kinds) (wants := wants) (outs := outs) hP hR.2.2.2.1 many' now' dn' row' sa' g2 (pCnt P) 0 0 (by omega)
  have e : Mo_waitSum_l8 (nI (pCnt P)) (nI (pLaw P)) b kinds comes wants outs 0 0 many' now' dn' row' sa' = _ := e
  rw [e]
  exact ⟨_, rfl, rfl⟩
/-! the share -/
theorem cd_loop {U C : Nat} (hU : U < 2000) (hC : 0 < C) (hC7 : C ≤ 7) : ∀ k : Nat, k ≤ 7 → 1 ≤ k → Nat.gcd U C ≤ k → Tq_commonDivisor_l2 (nI U) (nI C) (nI k) = some (nI (Nat.gcd U C))
  | 0, _, h, _ => absurd h (by omega)
  | 1, _, _, hg => by
    have hp : 0 < Nat.gcd U C := Nat.gcd_pos_of_pos_right U hC
    rw [Tq_commonDivisor_l2_eq]
    unfold Tq_commonDivisor_b2
    rw [if_pos (show nI 1 ≤ 1 by decide), pu_rt, show Nat.gcd U C = 1 by omega]
    rfl
  | k + 2, hk, _, hg => by
    rw [Tq_commonDivisor_l2_eq]
    unfold Tq_commonDivisor_b2
    simp only [lt]
    have hne : ¬ nI (k + 2) = 0 := nI_ne0 (by omega) (by omega)
    have hU' : U % (k + 2) < 2 ^ 31 := by have := Nat.mod_lt U (show k + 2 > 0 by omega); omega
    have hC' : C % (k + 2) < 2 ^ 31 := by have := Nat.mod_lt C (show k + 2 > 0 by omega); omega
    have e2 : nI (k + 2) + (-1) = nI (k + 1) := pk_m1 _
    rw [if_neg (by rw [li1]; exact nI_ge (by omega) (by omega)), if_pos hne, pk_rem (by omega) (by omega) (by omega), if_pos hne, pk_rem (by omega) (by omega) (by omega), e2]
    have q1 : nI (U % (k + 2)) = 0 ↔ U % (k + 2) = 0 := by rw [li0, nI_eq hU' (by omega)]
    have q2 : nI (C % (k + 2)) = 0 ↔ C % (k + 2) = 0 := by rw [li0, nI_eq hC' (by omega)]
    by_cases c1 : U % (k + 2) = 0
    · rw [if_pos (q1.mpr c1)]
      by_cases c2 : C % (k + 2) = 0
      · rw [if_pos (q2.mpr c2), pu_rt]
        have hd : k + 2 ∣ Nat.gcd U C := Nat.dvd_gcd (Nat.dvd_of_mod_eq_zero c1) (Nat.dvd_of_mod_eq_zero c2)
        have hl := Nat.le_of_dvd (Nat.gcd_pos_of_pos_right U hC) hd
        rw [show Nat.gcd U C = k + 2 by omega]
      · rw [if_neg (fun z => c2 (q2.mp z)), pu_jp, Tq_commonDivisor_l2_fd]
        refine cd_loop hU hC hC7 (k + 1) (by omega) (by omega) ?_
        rcases Nat.lt_or_ge (Nat.gcd U C) (k + 2) with z | z
        · omega
        · exfalso
          apply c2
          have hz : Nat.gcd U C = k + 2 := by omega
          have := Nat.gcd_dvd_right U C
          rw [hz] at this
          exact Nat.mod_eq_zero_of_dvd this
    · rw [if_neg (fun z => c1 (q1.mp z)), pu_jp, Tq_commonDivisor_l2_fd]
      refine cd_loop hU hC hC7 (k + 1) (by omega) (by omega) ?_
      rcases Nat.lt_or_ge (Nat.gcd U C) (k + 2) with z | z
      · omega
      · exfalso
        apply c1
        have hz : Nat.gcd U C = k + 2 := by omega
        have := Nat.gcd_dvd_left U C
        rw [hz] at this
        exact Nat.mod_eq_zero_of_dvd this
theorem euc_loop (up down : Int64) (which : Int32) : ∀ (n a c : Nat), c < n → a < 2000 → c < 2000 → Mo_told_l6 up down which (lN a) (lN c) = Mo_told_j31 up down which (lN (Nat.gcd a c))
  | 0, _, _, h, _, _ => absurd h (Nat.not_lt_zero _)
  | n + 1, a, c, hn, ha, hc => by
    rw [Mo_told_l6_eq]
    unfold Mo_told_b6
    simp only [lt]
    have z0 : (0 : Int64) = lN 0 := rfl
    rcases Nat.eq_zero_or_pos c with c0 | c0
    · subst c0
      rw [if_pos (by rw [lg_cmp_eq]; rfl), pu_ex, Nat.gcd_zero_right]
    · have hne : ¬ lN c = 0 := by rw [z0, lN_eq (by omega) (by omega)]; omega
      have hm := Nat.mod_lt a c0
      rw [if_neg (by rw [lg_cmp_eq]; exact hne), if_pos hne, pk_lRem (by omega) c0 (by omega), pu_jp, Mo_told_l6_fd, euc_loop up down which n c (a % c) (by omega) hc (by omega)]
      rw [Nat.gcd_comm c (a % c), ← Nat.gcd_rec c a, Nat.gcd_comm c a]
theorem T_waits {P : Pln} {law cnt mlaw mcnt : Int32} {kinds comes wants outs mkinds mcomes mwants mouts : Nat → Int32} {b : Int64} (hP : pOK P) (hR : RP P law cnt kinds comes wants outs) (hM : RP P mlaw mcnt mkinds mcomes mwants mouts) (x : Int32) (t1 t2 : Int32) (t3 : Int64) (t4 t5 : Int32) (row sa : Nat → Int32) (many now dnI : Int32) (row2 sa2 : Nat → Int32) :
    ∃ o o', Tq_waits x law cnt b kinds comes wants outs t1 t2 t3 t4 t5 row sa = some o ∧ Mo_waits x mcnt mlaw b mkinds mcomes mwants mouts many now dnI row2 sa2 = some o' ∧ o.1 = o'.1 := by
  have hc := hP.2.1
  obtain ⟨o, e1, e2⟩ := Co_waitOfAll_ok (b := b) hP hR t1 t2 t3 t4 t5 row sa
  obtain ⟨o', e3, e4⟩ := Mo_waitSum_ok (b := b) hP hM many now dnI row2 sa2
  obtain ⟨rfl, rfl, -⟩ := id hR
  obtain ⟨rfl, rfl, -⟩ := id hM
  have hU := WA_le hP b
  have main : (x = 0 ∨ x = 1) → ∃ o o', Tq_waits_j13 x (nI (pLaw P)) (nI (pCnt P)) b kinds comes wants outs t1 t2 t3 t4 t5 row sa = some o ∧ (if nI (pCnt P) = 0 then Mo_lost.bind fun y11 => some (y11, many, now, dnI, row2, sa2) else (Mo_waitSum (nI (pCnt P)) (nI (pLaw P)) b mkinds mcomes mwants mouts many now dnI row2 sa2).bind fun y7 => (Mo_told y7.1.toInt64 (nI (pCnt P)).toInt64 x).bind fun y9 => some (y9, y7.2.1, y7.2.2.1, y7.2.2.2.1, y7.2.2.2.2.1, y7.2.2.2.2.2)) = some o' ∧ o.1 = o'.1 := by
    intro hx
    unfold Tq_waits_j13 Mo_lost
    rcases none_cases hc with ⟨c0, h1, h2⟩ | ⟨c0, h1, h2⟩
    · rw [h1, if_pos h2]
      simp only [Option.bind_some, n10, if_false]
      exact ⟨_, _, rfl, rfl, rfl⟩
    · rw [h1, if_neg h2]
      simp only [Option.bind_some, if_true]
      rw [e1, e3]
      simp only [Option.bind_some]
      rw [e2, e4]
      have hg : 0 < Nat.gcd (WA P b) (pCnt P) := Nat.gcd_pos_of_pos_right _ c0
      have hgc : Nat.gcd (WA P b) (pCnt P) ≤ pCnt P := Nat.gcd_le_right _ c0
      unfold Tq_commonDivisor Mo_told
      rw [cd_loop (by omega) c0 hc (pCnt P) hc c0 hgc, nI_l (by omega), nI_l (by omega), euc_loop _ _ _ 8 (WA P b) (pCnt P) (by omega) (by omega) (by omega)]
      unfold Mo_told_j31
      have hgn : ¬ nI (Nat.gcd (WA P b) (pCnt P)) = 0 := nI_ne0 hg (by omega)
      have hgl : ¬ lN (Nat.gcd (WA P b) (pCnt P)) = 0 := by rw [show (0 : Int64) = lN 0 from rfl, lN_eq (by omega) (by omega)]; omega
      simp only [Option.bind_some]
      have hd1 : WA P b / Nat.gcd (WA P b) (pCnt P) ≤ WA P b := Nat.div_le_self _ _
      have hd2 : pCnt P / Nat.gcd (WA P b) (pCnt P) ≤ pCnt P := Nat.div_le_self _ _
      by_cases w0 : x = 0
      · rw [if_pos w0, if_pos hgn, if_pos w0, if_pos hgl, pk_div (by omega) hg (by omega), pk_lDiv (by omega) hg (by omega), nI_l (by omega)]
        exact ⟨_, _, rfl, rfl, rfl⟩
      · rw [if_neg w0, if_pos hgn, if_neg w0, if_pos hgl, pk_div (by omega) hg (by omega), pk_lDiv (by omega) hg (by omega), nI_l (by omega)]
        exact ⟨_, _, rfl, rfl, rfl⟩
  unfold Tq_waits Mo_waits
  rcases what_cases x with ⟨w, h3⟩ | ⟨w, h3⟩ | ⟨w0, w1, h3⟩
  · rw [h3, if_pos w]
    simp only [Option.bind_some, n10, if_false]
    exact main (Or.inl w)
  · have w0 : ¬ x = 0 := fun z => one_ne0 (w.symm.trans z)
    rw [h3, if_neg w0, if_pos w]
    simp only [Option.bind_some, n10, if_false]
    exact main (Or.inr w)
  · rw [h3, if_neg w0, if_neg w1]
    unfold Mo_lost
    simp only [Option.bind_some, if_true]
    exact ⟨_, _, rfl, rfl, rfl⟩

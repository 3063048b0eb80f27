/-! ===== the reference's day ===== -/
/-- the reference's cells hold a day's state -/
def RM (S : Dst) (many now dn : Int32) (row sa : Nat → Int32) : Prop :=
  many = nI S.1.length ∧ Rq row S.1 ∧ now = oI S.2.1 ∧ (S.2.1 ≠ none → dn = nI S.2.2.1) ∧ ∀ p, p < 7 → sa p = oI (S.2.2.2 p)
section
variable {P : Pln} {kinds comes wants outs : Nat → Int32} {s m : Nat} {b : Int64} {q : List Nat} {sv : Option Nat} {dn : Nat} {se : Nat → Option Nat} {many now dnI : Int32} {row sa : Nat → Int32}
theorem Mo_serve (hP : pOK P) (hw : Rn wants (pWt P) (pCnt P)) (hm : m < 200) (hn : q.Nodup) (hx : ∀ x ∈ q, x < pCnt P) (hsv : ∀ p, sv = some p → p < pCnt P) (h : RM (q, sv, dn, se) many now dnI row sa) :
    ∃ many' now' dn' row' sa', Mo_goMinute_j147 (nI m) (nI s) b (nI (pCnt P)) (nI (pLaw P)) kinds comes wants outs many now dnI row sa = some (many', now', dn', row', sa') ∧ RM (srv P m q sv dn se) many' now' dn' row' sa' := by
  obtain ⟨h1, h2, h3, h4, h5⟩ := id h
  have hc7 := hP.2.1
  have hlen := nd_len hn hx
  have h1 : many = nI q.length := h1
  unfold Mo_goMinute_j147
  cases sv with
  | some p =>
    have hp := hsv p rfl
    rw [if_pos (by rw [h3]; exact nI_pos' (by omega))]
    exact ⟨_, _, _, _, _, rfl, h⟩
  | none =>
    rw [if_neg (by rw [h3]; exact (by decide : ¬ (0 : Int32) ≤ -9))]
    cases q with
    | nil =>
      rw [if_pos (by rw [h1]; exact (by decide : (0 : Int32) ≤ 0))]
      exact ⟨_, _, _, _, _, rfl, h⟩
    | cons p t =>
      have hp : p < pCnt P := hx p (List.mem_cons_self ..)
      have hwp := (hP.2.2 p hp).2.2
      rw [if_neg (by rw [show many = nI (p :: t).length from h1]; exact nI_nle (by rw [List.length_cons]; omega) (by omega)), if_pos (show ck 0 7 = true by decide)]
      have e0 : row (0 : Int32).toNatClampNeg = nI p := h2 0 p rfl
      simp only [lt]
      rw [e0]
      obtain ⟨a1, e1, r1⟩ := Mo_takeOut_ok (q := p :: t) (k := 0) h2 (by rw [List.length_cons]; omega) (by omega)
      rw [h1, li0, e1]
      simp only [Option.bind_some, if_pos (ck_nI (show p < 7 by omega) (by omega))]
      rw [nI_clamp (by omega), hw p hp, nI_add]
      refine ⟨_, _, _, _, _, rfl, rfl, r1, rfl, fun _ => rfl, ?_⟩
      intro p' hp'
      show upd sa p (nI m) p' = oI (upO se p (some m) p')
      rw [upd_eq]
      unfold upO
      by_cases c : p' = p
      · rw [if_pos c, if_pos c]; rfl
      · rw [if_neg c, if_neg c]; exact h5 p' hp'
theorem Mo_bellM (hP : pOK P) (hw : Rn wants (pWt P) (pCnt P)) (hm : m < 200) (hn : q.Nodup) (hx : ∀ x ∈ q, x < pCnt P) (hsv : ∀ p, sv = some p → p < pCnt P) (h : RM (q, sv, dn, se) many now dnI row sa) :
    ∃ many' now' dn' row' sa', Mo_goMinute_j135 (nI m) (nI s) b (nI (pCnt P)) (nI (pLaw P)) kinds comes wants outs many now dnI row sa = some (many', now', dn', row', sa') ∧ RM (srv P m (belQ P (bellF b) m q) sv dn se) many' now' dn' row' sa' := by
  have hc7 := hP.2.1
  have hlen := nd_len hn hx
  unfold Mo_goMinute_j135
  rw [isBell_ok (by omega)]
  simp only [Option.bind_some]
  by_cases c : m < 60 ∧ bitL b m = true
  · rw [if_pos c, if_neg (show ¬ (1 : Int32) = 0 by decide)]
    obtain ⟨a1, e1, r1⟩ := Mo_turnAll_ok (q := q) (law := pLaw P) h.2.1 hP.1 (by omega)
    rw [show many = nI q.length from h.1, e1]
    simp only [Option.bind_some]
    have eb : belQ P (bellF b) m q = turnQ (pLaw P) q := by unfold belQ; rw [if_pos (bellF_eq.mpr c)]
    have hpm := turnQ_perm (pLaw P) q
    rw [eb]
    exact Mo_serve hP hw hm (hpm.nodup_iff.mpr hn) (fun x z => hx x (hpm.mem_iff.mp z)) hsv (show RM (turnQ (pLaw P) q, sv, dn, se) (nI (turnQ (pLaw P) q).length) now dnI a1 sa from ⟨rfl, r1, h.2.2⟩)
  · rw [if_neg c, if_pos (show (0 : Int32) = 0 from rfl)]
    have eb : belQ P (bellF b) m q = q := by unfold belQ; rw [if_neg (fun z => c (bellF_eq.mp z))]
    rw [eb]
    exact Mo_serve hP hw hm hn hx hsv h
theorem Mo_co_loop (hP : pOK P) (hk : Rn kinds (pKd P) (pCnt P)) (hc : Rn comes (pCm P) (pCnt P)) (hs : s < 128) (hm : m < 2 ^ 31) : ∀ (d i : Nat) (q : List Nat) (a : Nat → Int32), pCnt P = i + d → Rq a q → q.Nodup → (∀ x ∈ q, x < pCnt P) → (∀ x ∈ q, pCm P x = m → s.testBit x = true → x < i) → ∃ a', Mo_goMinute_l87 (nI m) (nI s) b (nI (pCnt P)) (nI (pLaw P)) kinds comes wants outs (nI i) (nI q.length) now dnI a sa = Mo_goMinute_j135 (nI m) (nI s) b (nI (pCnt P)) (nI (pLaw P)) kinds comes wants outs (nI (coQ P s.testBit m d i q).length) now dnI a' sa ∧ Rq a' (coQ P s.testBit m d i q)
  | 0, i, q, a, hd, ha, hn, hx, hy => by
    refine ⟨a, ?_, ha⟩
    rw [Mo_goMinute_l87_eq]
    unfold Mo_goMinute_b87
    rw [if_pos (nI_le (by omega) (by have := hP.2.1; omega)), pu_ex]
    rfl
  | d + 1, i, q, a, hd, ha, hn, hx, hy => by
    have h7 := hP.2.1
    have hlen := nd_len hn hx
    have hi : i < pCnt P := by omega
    have hcb := (hP.2.2 i hi).2.1
    rw [Mo_goMinute_l87_eq]
    unfold Mo_goMinute_b87
    simp only [lt]
    rw [if_neg (nI_ge (by omega) (by omega))]
    show ∃ a', _ = Mo_goMinute_j135 (nI m) (nI s) b (nI (pCnt P)) (nI (pLaw P)) kinds comes wants outs (nI (coQ P s.testBit m d (i + 1) (coS P s.testBit m q i)).length) now dnI a' sa ∧ Rq a' (coQ P s.testBit m d (i + 1) (coS P s.testBit m q i))
    by_cases w : s.testBit i = true
    · rw [if_pos ((who_ok (by omega) (by omega)).mpr w), if_pos (ck_nI (by omega) (by omega)), nI_clamp (by omega), hc i hi]
      by_cases c : pCm P i = m
      · rw [if_pos (by rw [c]), Mo_placeFor_ok ha (by omega) h7 hx hk (fun j hj => (hP.2.2 j hj).1) hi]
        simp only [Option.bind_some]
        have hni : i ∉ q := fun z => absurd (hy i z c w) (Nat.lt_irrefl i)
        have hl2 : q.length + 1 ≤ pCnt P := by
          have := nd_len (List.nodup_cons.mpr ⟨hni, hn⟩) (n := pCnt P) (fun x h => by
            rcases List.mem_cons.mp h with e | e
            · rw [e]; exact hi
            · exact hx x e)
          rw [List.length_cons] at this
          exact this
        obtain ⟨a1, e1, r1⟩ := Mo_standAt_ok (p := i) ha (placeQ_le (pKd P) q i) (by omega)
        have er : coS P s.testBit m q i = q.insertIdx (placeQ (pKd P) q i) i := by unfold coS; rw [if_pos ⟨c, w⟩]
        rw [e1]
        simp only [Option.bind_some, pu_jp, Mo_goMinute_l87_fd, nI_1]
        rw [← er] at r1 ⊢
        refine Mo_co_loop hP hk hc hs hm d (i + 1) _ a1 (by omega) r1 (coS_nd hn hni) ?_ ?_
        · intro x h
          rcases coS_mem.mp h with e | e
          · exact hx x e
          · rw [e.1]; exact hi
        · intro x h h1 h2
          rcases coS_mem.mp h with e | e
          · have := hy x e h1 h2; omega
          · omega
      · have er : coS P s.testBit m q i = q := by unfold coS; rw [if_neg (fun z => c z.1)]
        rw [if_neg (fun z => c ((nI_eq (by omega) hm).mp z)), er]
        simp only [pu_jp, Mo_goMinute_l87_fd, nI_1]
        exact Mo_co_loop hP hk hc hs hm d (i + 1) q a (by omega) ha hn hx (fun x h h1 h2 => by have := hy x h h1 h2; omega)
    · have er : coS P s.testBit m q i = q := by unfold coS; rw [if_neg (fun z => w z.2)]
      rw [if_neg (fun z => w ((who_ok (by omega) (by omega)).mp z)), er]
      simp only [pu_jp, Mo_goMinute_l87_fd, nI_1]
      exact Mo_co_loop hP hk hc hs hm d (i + 1) q a (by omega) ha hn hx (fun x h h1 h2 => by have := hy x h h1 h2; omega)
theorem Mo_ro_loop (hP : pOK P) (ho : ∀ p, p < pCnt P → outs p = oI (pOt P p)) (hm : m < 2 ^ 31) : ∀ (d i : Nat) (q : List Nat) (a : Nat → Int32), pCnt P = i + d → Rq a q → q.Nodup → (∀ x ∈ q, x < pCnt P) → ∃ a', Mo_goMinute_l24 (nI m) (nI s) b (nI (pCnt P)) (nI (pLaw P)) kinds comes wants outs (nI i) (nI q.length) now dnI a sa = Mo_goMinute_l87 (nI m) (nI s) b (nI (pCnt P)) (nI (pLaw P)) kinds comes wants outs 0 (nI (roQ P m d i q).length) now dnI a' sa ∧ Rq a' (roQ P m d i q)
  | 0, i, q, a, hd, ha, hn, hx => by
    refine ⟨a, ?_, ha⟩
    rw [Mo_goMinute_l24_eq]
    unfold Mo_goMinute_b24
    rw [if_pos (nI_le (by omega) (by have := hP.2.1; omega)), pu_ex]
    rfl
  | d + 1, i, q, a, hd, ha, hn, hx => by
    have h7 := hP.2.1
    have hlen := nd_len hn hx
    have hi : i < pCnt P := by omega
    have hob : ∀ k, pOt P i = some k → k < 2 ^ 31 := fun k e => by have := (hP.2.2 i hi).2.2.2.2 k e; omega
    rw [Mo_goMinute_l24_eq]
    unfold Mo_goMinute_b24
    rw [if_neg (nI_ge (by omega) (by omega)), if_pos (ck_nI (by omega) (by omega)), nI_clamp (by omega), ho i hi]
    show ∃ a', _ = Mo_goMinute_l87 (nI m) (nI s) b (nI (pCnt P)) (nI (pLaw P)) kinds comes wants outs 0 (nI (roQ P m d (i + 1) (roS P m q i)).length) now dnI a' sa ∧ Rq a' (roQ P m d (i + 1) (roS P m q i))
    by_cases c : pOt P i = some m
    · rw [if_pos ((oI_eq hm hob).mpr c)]
      rcases Mo_placeOf_ok ha (by omega) (fun x h => by have := hx x h; omega) (show i < 7 by omega) with ⟨hni, e⟩ | ⟨k, hk, e⟩
      · have er : roS P m q i = q := by unfold roS; rw [if_neg (fun z => hni z.2)]
        rw [e, er]
        simp only [Option.bind_some]
        unfold Mo_goMinute_j55
        rw [if_pos (show (-9 : Int32) < 0 by decide)]
        simp only [lt, pu_jp, Mo_goMinute_l24_fd, nI_1]
        exact Mo_ro_loop hP ho hm d (i + 1) q a (by omega) ha hn hx
      · have hkl : k < q.length := (List.getElem?_eq_some_iff.mp hk).1
        obtain ⟨a1, e1, r1⟩ := Mo_takeOut_ok ha hkl (by omega)
        have hl1 : (q.eraseIdx k).length = q.length - 1 := List.length_eraseIdx_of_lt hkl
        obtain ⟨a2, e2, r2⟩ := Mo_standAt_ok (k := (q.eraseIdx k).length) (p := i) r1 (Nat.le_refl _) (by omega)
        have er : roS P m q i = (q.eraseIdx k).insertIdx (q.eraseIdx k).length i := by
          unfold roS
          rw [if_pos ⟨c, List.mem_of_getElem? hk⟩, List.insertIdx_length_self, eraseIdx_filter hn hk]
        rw [e, er]
        simp only [Option.bind_some]
        unfold Mo_goMinute_j55
        rw [if_neg (nI_pos (by omega)), e1]
        simp only [Option.bind_some]
        rw [e2]
        simp only [Option.bind_some, lt, pu_jp, Mo_goMinute_l24_fd, nI_1]
        rw [← er] at r2 ⊢
        exact Mo_ro_loop hP ho hm d (i + 1) (roS P m q i) a2 (by omega) r2 (roS_nd hn) (fun x h => hx x (roS_mem.mp h))
    · have er : roS P m q i = q := by unfold roS; rw [if_neg (fun z => c z.1)]
      rw [if_neg (fun z => c ((oI_eq hm hob).mp z)), er]
      unfold Mo_goMinute_j55
      rw [if_pos (show (-9 : Int32) < 0 by decide)]
      simp only [lt, pu_jp, Mo_goMinute_l24_fd, nI_1]
      exact Mo_ro_loop hP ho hm d (i + 1) q a (by omega) ha hn hx
theorem Mo_goMinute_ok (hP : pOK P) (hk : Rn kinds (pKd P) (pCnt P)) (hc : Rn comes (pCm P) (pCnt P)) (hw : Rn wants (pWt P) (pCnt P)) (ho : ∀ p, p < pCnt P → outs p = oI (pOt P p)) (hs : s < 128) (hm : m < 200) {S : Dst} (hD : DI P s.testBit m S) (h : RM S many now dnI row sa) :
    ∃ many' now' dn' row' sa', Mo_goMinute (nI m) (nI s) b (nI (pCnt P)) (nI (pLaw P)) kinds comes wants outs many now dnI row sa = some (many', now', dn', row', sa') ∧ RM (stepD P s.testBit (bellF b) m S) many' now' dn' row' sa' := by
  obtain ⟨q1, q2⟩ := preQ_of hD
  have hx : ∀ x ∈ preQ P s.testBit m S.1, x < pCnt P := fun x z => ((q2 x).mp z).elim (fun z => (hD.2.1 x z).1) (fun z => z.1)
  have hx0 : ∀ x ∈ S.1, x < pCnt P := fun x z => (hD.2.1 x z).1
  obtain ⟨h1, h2, h3, h4, h5⟩ := h
  have key : ∃ now2, Mo_goMinute (nI m) (nI s) b (nI (pCnt P)) (nI (pLaw P)) kinds comes wants outs many now dnI row sa = Mo_goMinute_l24 (nI m) (nI s) b (nI (pCnt P)) (nI (pLaw P)) kinds comes wants outs 0 many now2 dnI row sa ∧ now2 = oI (svQ m S.2.1 S.2.2.1) ∧ (svQ m S.2.1 S.2.2.1 ≠ none → dnI = nI S.2.2.1) := by
    unfold Mo_goMinute svQ
    cases hs : S.2.1 with
    | none =>
      have h3 : now = -9 := by rw [h3, hs]; rfl
      refine ⟨-9, ?_, ?_, ?_⟩
      · rw [h3, if_pos (by decide)]
      · by_cases c : S.2.2.1 = m
        · rw [if_pos c]; rfl
        · rw [if_neg c]; rfl
      · intro z
        exfalso
        apply z
        by_cases c : S.2.2.1 = m
        · rw [if_pos c]
        · rw [if_neg c]
    | some p =>
      have hd : dnI = nI S.2.2.1 := h4 (by rw [hs]; simp)
      obtain ⟨hp, t, b1, b2, b3⟩ := hD.2.2.2.2 p hs
      have hwp := (hP.2.2 p hp).2.2
      have ht := (hD.2.2.2.1 p t b1).2.2.2
      have hc7 := hP.2.1
      have hnow : now = nI p := by rw [h3, hs]; rfl
      rw [hnow, if_neg (nI_pos (by omega))]
      by_cases c : S.2.2.1 = m
      · refine ⟨-9, ?_, ?_, ?_⟩
        · rw [if_pos (by rw [hd, c])]
        · rw [if_pos c]; rfl
        · intro z
          exfalso
          apply z
          rw [if_pos c]
      · refine ⟨nI p, ?_, ?_, fun _ => hd⟩
        · rw [if_neg (by rw [hd, nI_eq (by omega) (by omega)]; exact c)]
        · rw [if_neg c]; rfl
  obtain ⟨now2, k1, k2, k3⟩ := key
  have hsv : ∀ p, svQ m S.2.1 S.2.2.1 = some p → p < pCnt P := by
    intro p e
    unfold svQ at e
    by_cases c : S.2.2.1 = m
    · rw [if_pos c] at e; cases e
    · rw [if_neg c] at e; exact (hD.2.2.2.2 p e).1
  obtain ⟨a1, e1, r1⟩ := Mo_ro_loop (s := s) (b := b) (kinds := kinds) (comes := comes) (wants := wants) (now := now2) (dnI := dnI) (sa := sa) (m := m) hP ho (by omega) (pCnt P) 0 S.1 row (by omega) h2 hD.1 hx0
  obtain ⟨a2, e2, r2⟩ := Mo_co_loop (m := m) (b := b) (wants := wants) (outs := outs) (now := now2) (dnI := dnI) (sa := sa) hP hk hc hs (by omega) (pCnt P) 0 _ a1 (by omega) r1 (roQ_nd _ _ _ hD.1) (fun x z => hx0 x ((roQ_mem _ _ _).mp z)) (fun x z z1 _ => by have := (hD.2.1 x ((roQ_mem _ _ _).mp z)).2.2.1; omega)
  rw [k1, h1, li0, e1, li0, e2]
  exact Mo_bellM hP hw hm q1 hx hsv (show RM (preQ P s.testBit m S.1, svQ m S.2.1 S.2.2.1, S.2.2.1, S.2.2.2) _ now2 dnI a2 sa from ⟨rfl, r2, k2, k3, h5⟩)
end
theorem Mo_begin_loop (a n : Int32) : ∀ (d i : Nat) (f : Nat → Int32), 7 = i + d → ∃ f', Mo_begin_l13 (nI i) a n f = some (a, n, f') ∧ ∀ p, p < 7 → f' p = if i ≤ p then -9 else f p
  | 0, i, f, hd => by
    refine ⟨f, ?_, fun p hp => by rw [if_neg (by omega)]⟩
    rw [Mo_begin_l13_eq]
    unfold Mo_begin_b13
    rw [li7, if_pos (nI_le (by omega) (by omega)), pu_rt]
  | d + 1, i, f, hd => by
    rw [Mo_begin_l13_eq]
    unfold Mo_begin_b13
    simp only [lt]
    rw [li7, if_neg (nI_ge (by omega) (by omega)), if_pos (ck_nI (by omega) (by omega)), nI_clamp (by omega), nI_1]
    simp only [pu_jp, Mo_begin_l13_fd]
    obtain ⟨f', e1, e2⟩ := Mo_begin_loop a n d (i + 1) (upd f i (-9)) (by omega)
    refine ⟨f', e1, fun p hp => ?_⟩
    rw [e2 p hp, upd_eq]
    by_cases c : p = i
    · rw [if_neg (by omega), if_pos c, if_pos (by omega)]
    · by_cases c2 : i ≤ p
      · rw [if_pos (by omega), if_pos c2]
      · rw [if_neg (by omega), if_neg c, if_neg c2]
theorem Mo_begin_ok (a n : Int32) (f : Nat → Int32) : ∃ f', Mo_begin a n f = some (0, -9, f') ∧ ∀ p, p < 7 → f' p = -9 := by
  obtain ⟨f', e1, e2⟩ := Mo_begin_loop 0 (-9) 7 0 f (by omega)
  refine ⟨f', e1, fun p hp => ?_⟩
  rw [e2 p hp, if_pos (Nat.zero_le p)]
theorem RM_0 (P : Pln) (who bell : Nat → Bool) (dnI : Int32) (row : Nat → Int32) {sa : Nat → Int32} (h : ∀ p, p < 7 → sa p = -9) : RM (dayAt P who bell 0) 0 (-9) dnI row sa :=
  ⟨rfl, fun i x e => by simp [dayAt] at e, rfl, fun z => absurd rfl z, h⟩
theorem Mo_day_loop {P : Pln} {kinds comes wants outs : Nat → Int32} {s : Nat} {b : Int64} (hP : pOK P) (hk : Rn kinds (pKd P) (pCnt P)) (hc : Rn comes (pCm P) (pCnt P)) (hw : Rn wants (pWt P) (pCnt P)) (ho : ∀ p, p < pCnt P → outs p = oI (pOt P p)) (hs : s < 128) :
    ∀ (d m : Nat) (many now dnI : Int32) (row sa : Nat → Int32), 200 = m + d → RM (dayAt P s.testBit (bellF b) m) many now dnI row sa → ∃ many' now' dn' row' sa', Mo_goDay_l7 (nI s) b (nI (pCnt P)) (nI (pLaw P)) kinds comes wants outs (nI m) many now dnI row sa = some (many', now', dn', row', sa') ∧ RM (dayAt P s.testBit (bellF b) 200) many' now' dn' row' sa'
  | 0, m, many, now, dnI, row, sa, hd, h => by
    have : m = 200 := by omega
    subst this
    refine ⟨_, _, _, _, _, ?_, h⟩
    rw [Mo_goDay_l7_eq]
    unfold Mo_goDay_b7
    rw [show (200 : Int32) = nI 200 from rfl, if_pos (nI_le (by omega) (by omega)), pu_rt]
  | d + 1, m, many, now, dnI, row, sa, hd, h => by
    obtain ⟨many', now', dn', row', sa', e1, e2⟩ := Mo_goMinute_ok (b := b) hP hk hc hw ho hs (by omega) (DI_day hP s.testBit (bellF b) m) h
    rw [Mo_goDay_l7_eq]
    unfold Mo_goDay_b7
    rw [show (200 : Int32) = nI 200 from rfl, if_neg (nI_ge (by omega) (by omega)), e1]
    simp only [Option.bind_some, lt, pu_jp, Mo_goDay_l7_fd, nI_1]
    exact Mo_day_loop hP hk hc hw ho hs d (m + 1) many' now' dn' row' sa' (by omega) e2
theorem Mo_goDay_ok {P : Pln} {law cnt : Int32} {kinds comes wants outs : Nat → Int32} {s : Nat} {b : Int64} (hP : pOK P) (hR : RP P law cnt kinds comes wants outs) (hs : s < 128) (many now dnI : Int32) (row sa : Nat → Int32) :
    ∃ many' now' dn' row' sa', Mo_goDay (nI s) b cnt law kinds comes wants outs many now dnI row sa = some (many', now', dn', row', sa') ∧ RM (dayAt P s.testBit (bellF b) 200) many' now' dn' row' sa' := by
  obtain ⟨rfl, rfl, hk, hc, hw, ho⟩ := hR
  obtain ⟨f', e1, e2⟩ := Mo_begin_ok many now sa
  unfold Mo_goDay
  rw [e1]
  simp only [Option.bind_some]
  obtain ⟨many', now', dn', row', sa', g1, g2⟩ := Mo_day_loop (b := b) hP hk hc hw ho hs 200 0 0 (-9) dnI row f' (by omega) (RM_0 P _ _ dnI row e2)
  exact ⟨many', now', dn', row', sa', g1, g2⟩

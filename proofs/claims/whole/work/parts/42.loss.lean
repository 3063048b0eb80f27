/-! ===== the least first ===== -/
def lwS (P : Pln) (left m : Nat) (a : Option Nat) (i : Nat) : Option Nat := if left.testBit i = true ∧ pCm P i ≤ m then (match a with | none => some i | some j => if pWt P j ≤ pWt P i then some j else some i) else a
def lwQ (P : Pln) (left m : Nat) : Nat → Nat → Option Nat → Option Nat
  | 0, _, a => a
  | d + 1, i, a => lwQ P left m d (i + 1) (lwS P left m a i)
theorem lwQ_s (P : Pln) (left m d i : Nat) (a : Option Nat) : lwQ P left m (d + 1) i a = lwQ P left m d (i + 1) (lwS P left m a i) := rfl
theorem lwS_lt {P : Pln} {left m : Nat} {a : Option Nat} {i : Nat} (hi : i < pCnt P) (ha : ∀ j, a = some j → j < pCnt P) : ∀ j, lwS P left m a i = some j → j < pCnt P := by
  intro j hj
  unfold lwS at hj
  by_cases c : left.testBit i = true ∧ pCm P i ≤ m
  · rw [if_pos c] at hj
    cases a with
    | none => cases hj; exact hi
    | some k =>
      have hj : (if pWt P k ≤ pWt P i then some k else some i) = some j := hj
      by_cases c2 : pWt P k ≤ pWt P i
      · rw [if_pos c2] at hj; exact ha j hj
      · rw [if_neg c2] at hj; cases hj; exact hi
  · rw [if_neg c] at hj; exact ha j hj
theorem lwQ_lt {P : Pln} {left m : Nat} : ∀ (d i : Nat) (a : Option Nat), pCnt P = i + d → (∀ j, a = some j → j < pCnt P) → ∀ j, lwQ P left m d i a = some j → j < pCnt P
  | 0, _, _, _, ha => ha
  | d + 1, i, a, hd, ha => by
    rw [lwQ_s]
    exact lwQ_lt d (i + 1) _ (by omega) (lwS_lt (by omega) ha)
theorem lwQ_0 {P : Pln} {m : Nat} : ∀ (d i : Nat), lwQ P 0 m d i none = none
  | 0, _ => rfl
  | d + 1, i => by
    rw [lwQ_s]
    have e : lwS P 0 m none i = none := by unfold lwS; rw [if_neg (fun z => by rw [Nat.zero_testBit] at z; cases z.1)]
    rw [e]
    exact lwQ_0 d (i + 1)
theorem lwQ_same {P : Pln} {l1 l2 m : Nat} : ∀ (d i : Nat) (a : Option Nat), (∀ j, j < i + d → l1.testBit j = l2.testBit j) → lwQ P l1 m d i a = lwQ P l2 m d i a
  | 0, _, _, _ => rfl
  | d + 1, i, a, h => by
    rw [lwQ_s, lwQ_s]
    have e : lwS P l1 m a i = lwS P l2 m a i := by unfold lwS; rw [h i (by omega)]
    rw [e]
    exact lwQ_same d (i + 1) _ (fun j hj => h j (by omega))
abbrev Lst : Type := Nat × Nat × Int32
def lsS (P : Pln) (m : Nat) (z : Lst) : Lst := if m < z.2.1 then z else (match lwQ P z.1 m (pCnt P) 0 none with | none => z | some p => (clr z.1 p, m + pWt P p, z.2.2 + (nI m - nI (pCm P p))))
def lsR (P : Pln) : Nat → Nat → Lst → Int32
  | 0, _, z => z.2.2
  | d + 1, m, z => lsR P d (m + 1) (lsS P m z)
theorem lsR_s (P : Pln) (d m : Nat) (z : Lst) : lsR P (d + 1) m z = lsR P d (m + 1) (lsS P m z) := rfl
theorem lsR_0 {P : Pln} : ∀ (d m f : Nat) (s : Int32), lsR P d m (0, f, s) = s
  | 0, _, _, _ => rfl
  | d + 1, m, f, s => by
    rw [lsR_s]
    have e : lsS P m (0, f, s) = (0, f, s) := by
      unfold lsS
      by_cases c : m < f
      · rw [if_pos c]
      · rw [if_neg c]
        show (match lwQ P 0 m (pCnt P) 0 none with | none => (0, f, s) | some p => (clr 0 p, m + pWt P p, s + (nI m - nI (pCm P p)))) = (0, f, s)
        rw [lwQ_0]
    rw [e]
    exact lsR_0 d (m + 1) f s
section
variable {P : Pln} {comes wants : Nat → Int32}
theorem Ch_lw_loop (hP : pOK P) (hc : Rn comes (pCm P) (pCnt P)) (hw : Rn wants (pWt P) (pCnt P)) {left m : Nat} (hl : left < 128) (hm : m < 200) :
    ∀ (d i : Nat) (a : Option Nat) (aI : Int32), pCnt P = i + d → aI = oI a → (∀ j, a = some j → j < pCnt P) → Ch_leastWanting_l6 (nI left) (nI m) (nI (pCnt P)) comes wants aI (nI i) = some (oI (lwQ P left m d i a))
  | 0, i, a, aI, hd, ha, hj => by
    subst ha
    have h7 := hP.2.1
    rw [Ch_leastWanting_l6_eq]
    unfold Ch_leastWanting_b6
    rw [if_pos (nI_le (by omega) (by omega)), pu_rt]
    rfl
  | d + 1, i, a, aI, hd, ha, hj => by
    subst ha
    have h7 := hP.2.1
    have hi : i < pCnt P := by omega
    have hb := hP.2.2 i hi
    have hj2 := lwS_lt (left := left) (m := m) hi hj
    rw [Ch_leastWanting_l6_eq]
    unfold Ch_leastWanting_b6
    simp only [lt]
    rw [if_neg (nI_ge (by omega) (by omega)), hasPer_ok (by omega) (by omega)]
    simp only [Option.bind_some, nI_1, pu_if, pu_jp, sg_l, pu_no, Ch_leastWanting_l6_fd]
    rw [lwQ_s]
    by_cases w : left.testBit i = true
    · rw [if_pos w, if_neg one_ne0, if_pos (ck_nI (by omega) (by omega)), nI_clamp (by omega), hc i hi]
      by_cases c : pCm P i ≤ m
      · rw [if_pos (nI_le c (by omega))]
        cases a with
        | none =>
          have e : lwS P left m none i = some i := by unfold lwS; rw [if_pos ⟨w, c⟩]
          rw [if_pos (show oI none = -9 from rfl), e]
          exact Ch_lw_loop hP hc hw hl hm d (i + 1) (some i) _ (by omega) (oI_some i).symm (by rw [e] at hj2; exact hj2)
        | some j =>
          have hjp := hj j rfl
          have hbj := hP.2.2 j hjp
          have e : lwS P left m (some j) i = if pWt P j ≤ pWt P i then some j else some i := by unfold lwS; rw [if_pos ⟨w, c⟩]
          rw [oI_some, if_neg (fun z => neg9 (by omega) z.symm), if_pos (ck_nI (by omega) (by omega)), if_pos (ck_nI (by omega) (by omega)), nI_clamp (by omega), hw j hjp, hw i hi]
          by_cases c2 : pWt P j ≤ pWt P i
          · rw [if_pos c2] at e
            rw [if_pos (nI_le c2 (by omega)), e]
            exact Ch_lw_loop hP hc hw hl hm d (i + 1) (some j) _ (by omega) (oI_some j).symm (by rw [e] at hj2; exact hj2)
          · rw [if_neg c2] at e
            rw [if_neg (nI_ge (by omega) (by omega)), e]
            exact Ch_lw_loop hP hc hw hl hm d (i + 1) (some i) _ (by omega) (oI_some i).symm (by rw [e] at hj2; exact hj2)
      · have e : lwS P left m a i = a := by unfold lwS; rw [if_neg (fun z => c z.2)]
        rw [if_neg (nI_ge (by omega) (by omega)), e]
        exact Ch_lw_loop hP hc hw hl hm d (i + 1) a _ (by omega) rfl hj
    · have e : lwS P left m a i = a := by unfold lwS; rw [if_neg (fun z => w z.1)]
      rw [if_neg w, if_pos rfl, e]
      exact Ch_lw_loop hP hc hw hl hm d (i + 1) a _ (by omega) rfl hj
theorem Ch_ls_loop (hP : pOK P) (hc : Rn comes (pCm P) (pCnt P)) (hw : Rn wants (pWt P) (pCnt P)) :
    ∀ (d m left f : Nat) (s : Int32), 200 = m + d → left < 128 → f < 300 → Ch_waitByLeastFirst_l13 (nI (pCnt P)) comes wants (nI left) (nI f) s (nI m) = some (lsR P d m (left, f, s))
  | 0, m, left, f, s, hd, hl, hf => by
    rw [Ch_waitByLeastFirst_l13_eq]
    unfold Ch_waitByLeastFirst_b13
    rw [show (199 : Int32) = nI 199 from rfl, if_pos (nI_lt (by omega) (by omega)), pu_rt]
    rfl
  | d + 1, m, left, f, s, hd, hl, hf => by
    have h7 := hP.2.1
    rw [Ch_waitByLeastFirst_l13_eq]
    unfold Ch_waitByLeastFirst_b13
    simp only [lt]
    rw [show (199 : Int32) = nI 199 from rfl, if_neg (nI_nlt (by omega) (by omega))]
    rcases Nat.eq_zero_or_pos left with c0 | c0
    · subst c0
      rw [if_pos (show nI 0 = 0 from rfl), pu_rt, lsR_0]
    · rw [if_neg (nI_ne0 c0 (by omega)), lsR_s]
      have ed : lsS P m (left, f, s) = if m < f then (left, f, s) else (match lwQ P left m (pCnt P) 0 none with | none => (left, f, s) | some p => (clr left p, m + pWt P p, s + (nI m - nI (pCm P p)))) := rfl
      by_cases c : m < f
      · rw [if_neg (nI_ge c (by omega)), nI_1, pu_jp, Ch_waitByLeastFirst_l13_fd, ed, if_pos c]
        exact Ch_ls_loop hP hc hw d (m + 1) left f s (by omega) hl hf
      · rw [if_pos (nI_le (by omega) (by omega)), ed, if_neg c]
        have e := Ch_lw_loop hP hc hw hl (by omega) (pCnt P) 0 none (-9) (by omega) rfl (fun j z => by cases z) (m := m)
        have e : Ch_leastWanting (nI left) (nI m) (nI (pCnt P)) comes wants = _ := e
        have hlt := lwQ_lt (P := P) (left := left) (m := m) (pCnt P) 0 none (by omega) (fun j z => by cases z)
        rw [e]
        generalize lwQ P left m (pCnt P) 0 none = o at *
        simp only [Option.bind_some]
        cases o with
        | none =>
          rw [if_pos (show oI none = -9 from rfl), nI_1, pu_jp, Ch_waitByLeastFirst_l13_fd]
          exact Ch_ls_loop hP hc hw d (m + 1) left f s (by omega) hl hf
        | some p =>
          have hp := hlt p rfl
          have hb := hP.2.2 p hp
          rw [oI_some, if_neg (fun z => neg9 (by omega) z.symm), if_pos (ck_nI (by omega) (by omega)), if_pos (ck_nI (by omega) (by omega)), nI_clamp (by omega), hc p hp, hw p hp, nI_add, clr_ok left (by omega) p (by omega), nI_1, pu_jp, Ch_waitByLeastFirst_l13_fd]
          have hcl : clr left p < 128 := by
            unfold clr
            by_cases z : left.testBit p = true
            · rw [if_pos z]; have := Nat.sub_le left (2 ^ p); omega
            · rw [if_neg z]; exact hl
          exact Ch_ls_loop hP hc hw d (m + 1) (clr left p) (m + pWt P p) _ (by omega) hcl (by omega)
theorem who_no {s p : Nat} (hs : s < 65536) (hp : p < 16) : ((nI s >>> (nI p &&& 31)) &&& 1) = 0 ↔ s.testBit p = false := by
  rw [pk_shrN (by omega) _ p (cnt_s31 p (by omega))]
  show nI (s / 2 ^ p) &&& nI 1 = nI 0 ↔ _
  have hd : s / 2 ^ p ≤ s := Nat.div_le_self _ _
  rw [nx_and, Nat.and_one_is_mod, nI_eq (by omega) (by omega), Nat.testBit_eq_decide_div_mod_eq, decide_eq_false_iff_not]
  generalize s / 2 ^ p = z
  omega
theorem Mo_lw_loop (hP : pOK P) (hc : Rn comes (pCm P) (pCnt P)) (hw : Rn wants (pWt P) (pCnt P)) {left sr m f : Nat} (hs : sr < 128) (hm : m < 200) (hf : f ≤ m) (hr : ∀ j, j < pCnt P → left.testBit j = !sr.testBit j) (s : Int32) :
    ∀ (d i : Nat) (a : Option Nat) (aI : Int32), pCnt P = i + d → aI = oI a → (∀ j, a = some j → j < pCnt P) → Mo_leastSum_l24 (nI (pCnt P)) comes wants (nI sr) s (nI f) (nI m) aI (nI i) = (Mo_leastSum_j109 (nI (pCnt P)) comes wants (nI sr) s (nI f) (nI m) (oI (lwQ P left m d i a))).bind (sg (fin (Mo_leastSum_s9 (nI (pCnt P)) comes wants)))
  | 0, i, a, aI, hd, ha, hj => by
    subst ha
    have h7 := hP.2.1
    rw [Mo_leastSum_l24_eq]
    unfold Mo_leastSum_b24
    rw [if_pos (nI_le (by omega) (by omega))]
    rfl
  | d + 1, i, a, aI, hd, ha, hj => by
    subst ha
    have h7 := hP.2.1
    have hi : i < pCnt P := by omega
    have hb := hP.2.2 i hi
    have hj2 := lwS_lt (left := left) (m := m) hi hj
    rw [Mo_leastSum_l24_eq]
    unfold Mo_leastSum_b24
    rw [if_neg (nI_ge (by omega) (by omega)), if_neg (nI_nlt hf (by omega)), lwQ_s]
    have skip : lwS P left m a i = a → (Mo_leastSum_j65 (nI (pCnt P)) comes wants (nI sr) s (nI f) (nI m) (oI a) (nI i) 0).bind (sg (fin (Mo_leastSum_s9 (nI (pCnt P)) comes wants))) = (Mo_leastSum_j109 (nI (pCnt P)) comes wants (nI sr) s (nI f) (nI m) (oI (lwQ P left m d (i + 1) (lwS P left m a i)))).bind (sg (fin (Mo_leastSum_s9 (nI (pCnt P)) comes wants))) := by
      intro e
      unfold Mo_leastSum_j65
      simp only [lt, if_true]
      rw [nI_1, pu_jp, Mo_leastSum_l24_fd, e]
      exact Mo_lw_loop hP hc hw hs hm hf hr s d (i + 1) a _ (by omega) rfl hj
    by_cases w : sr.testBit i = true
    · rw [if_neg (by rw [who_no (by omega) (by omega), w]; decide)]
      exact skip (by unfold lwS; rw [if_neg (fun z => by have := z.1; rw [hr i hi, w] at this; cases this)])
    · have w : sr.testBit i = false := eq_false_of_ne_true w
      have wl : left.testBit i = true := by rw [hr i hi, w]; rfl
      rw [if_pos ((who_no (by omega) (by omega)).mpr w), if_pos (ck_nI (by omega) (by omega)), nI_clamp (by omega), hc i hi]
      by_cases c : pCm P i ≤ m
      · rw [if_neg (nI_nlt c (by omega))]
        unfold Mo_leastSum_j65
        simp only [lt]
        rw [if_neg one_ne0]
        cases a with
        | none =>
          have e : lwS P left m none i = some i := by unfold lwS; rw [if_pos ⟨wl, c⟩]
          rw [if_pos (show oI none < 0 by decide), nI_1, pu_jp, Mo_leastSum_l24_fd, e]
          exact Mo_lw_loop hP hc hw hs hm hf hr s d (i + 1) (some i) _ (by omega) (oI_some i).symm (by rw [e] at hj2; exact hj2)
        | some j =>
          have hjp := hj j rfl
          have hbj := hP.2.2 j hjp
          have e : lwS P left m (some j) i = if pWt P j ≤ pWt P i then some j else some i := by unfold lwS; rw [if_pos ⟨wl, c⟩]
          rw [oI_some, if_neg (nI_pos (by omega)), if_pos (ck_nI (by omega) (by omega)), if_pos (ck_nI (by omega) (by omega)), nI_clamp (by omega), nI_clamp (by omega), hw j hjp, hw i hi]
          by_cases c2 : pWt P j ≤ pWt P i
          · rw [if_pos c2] at e
            rw [if_pos (nI_le c2 (by omega)), nI_1, pu_jp, Mo_leastSum_l24_fd, e]
            exact Mo_lw_loop hP hc hw hs hm hf hr s d (i + 1) (some j) _ (by omega) (oI_some j).symm (by rw [e] at hj2; exact hj2)
          · rw [if_neg c2] at e
            rw [if_neg (nI_ge (by omega) (by omega)), nI_1, pu_jp, Mo_leastSum_l24_fd, e]
            exact Mo_lw_loop hP hc hw hs hm hf hr s d (i + 1) (some i) _ (by omega) (oI_some i).symm (by rw [e] at hj2; exact hj2)
      · rw [if_pos (nI_lt (by omega) (by omega))]
        exact skip (by unfold lwS; rw [if_neg (fun z => c z.2)])
theorem or_ok : ∀ a, a < 128 → ∀ p, p < 7 → nI a ||| ((1 : Int32) <<< (nI p &&& 31)) = nI (a ||| 2 ^ p) := by decide +kernel
theorem or_bit : ∀ a, a < 128 → ∀ p, p < 7 → (a ||| 2 ^ p) < 128 ∧ ∀ j, j < 8 → (a ||| 2 ^ p).testBit j = (a.testBit j || decide (j = p)) := by decide +kernel
theorem Mo_ls_loop (hP : pOK P) (hc : Rn comes (pCm P) (pCnt P)) (hw : Rn wants (pWt P) (pCnt P)) :
    ∀ (d m left sr f : Nat) (s : Int32), 200 = m + d → left < 128 → sr < 128 → f < 300 → (∀ j, j < pCnt P → left.testBit j = !sr.testBit j) → Mo_leastSum_l9 (nI (pCnt P)) comes wants (nI sr) s (nI f) (nI m) = some (lsR P d m (left, f, s))
  | 0, m, left, sr, f, s, hd, hl, hs, hf, hr => by
    rw [Mo_leastSum_l9_eq]
    unfold Mo_leastSum_b9
    rw [show (200 : Int32) = nI 200 from rfl, if_pos (nI_le (by omega) (by omega)), pu_rt]
    rfl
  | d + 1, m, left, sr, f, s, hd, hl, hs, hf, hr => by
    have h7 := hP.2.1
    rw [Mo_leastSum_l9_eq]
    unfold Mo_leastSum_b9
    rw [show (200 : Int32) = nI 200 from rfl, if_neg (nI_ge (by omega) (by omega)), pu_jp, Mo_leastSum_l24_fd, lsR_s]
    have ed : lsS P m (left, f, s) = if m < f then (left, f, s) else (match lwQ P left m (pCnt P) 0 none with | none => (left, f, s) | some p => (clr left p, m + pWt P p, s + (nI m - nI (pCm P p)))) := rfl
    have skip : (Mo_leastSum_j109 (nI (pCnt P)) comes wants (nI sr) s (nI f) (nI m) (-9)).bind (sg (fin (Mo_leastSum_s9 (nI (pCnt P)) comes wants))) = some (lsR P d (m + 1) (left, f, s)) := by
      unfold Mo_leastSum_j109
      simp only [lt]
      rw [if_pos (show (-9 : Int32) < 0 by decide), nI_1, pu_jp, Mo_leastSum_l9_fd]
      exact Mo_ls_loop hP hc hw d (m + 1) left sr f s (by omega) hl hs hf hr
    by_cases c : m < f
    · rw [ed, if_pos c, ← skip, Mo_leastSum_l24_eq]
      unfold Mo_leastSum_b24
      by_cases c2 : nI (pCnt P) ≤ 0
      · rw [if_pos c2]
      · rw [if_neg c2, if_pos (nI_lt c (by omega))]
    · rw [ed, if_neg c]
      have e := Mo_lw_loop hP hc hw hs (show m < 200 by omega) (show f ≤ m by omega) hr s (pCnt P) 0 none (-9) (by omega) rfl (fun j z => by cases z)
      have e : Mo_leastSum_l24 (nI (pCnt P)) comes wants (nI sr) s (nI f) (nI m) (-9) 0 = _ := e
      have hlt := lwQ_lt (P := P) (left := left) (m := m) (pCnt P) 0 none (by omega) (fun j z => by cases z)
      rw [e]
      generalize lwQ P left m (pCnt P) 0 none = o at *
      cases o with
      | none => exact skip
      | some p =>
        have hp := hlt p rfl
        have hb := hP.2.2 p hp
        unfold Mo_leastSum_j109
        simp only [lt]
        rw [oI_some, if_neg (nI_pos (by omega)), if_pos (ck_nI (by omega) (by omega)), if_pos (ck_nI (by omega) (by omega)), nI_clamp (by omega), hc p hp, hw p hp, nI_add, or_ok sr hs p (by omega), nI_1, pu_jp, Mo_leastSum_l9_fd]
        have hcl : clr left p < 128 := by
          unfold clr
          by_cases z : left.testBit p = true
          · rw [if_pos z]; have := Nat.sub_le left (2 ^ p); omega
          · rw [if_neg z]; exact hl
        refine Mo_ls_loop hP hc hw d (m + 1) (clr left p) (sr ||| 2 ^ p) (m + pWt P p) _ (by omega) hcl (or_bit sr hs p (by omega)).1 (by omega) ?_
        intro j hj
        rw [(clr_bit left (by omega) p (by omega)).2 j (by omega), (or_bit sr hs p (by omega)).2 j (by omega), hr j hj]
        cases sr.testBit j <;> cases decide (j = p) <;> rfl
end
theorem T_loss {P : Pln} {law cnt mlaw mcnt : Int32} {kinds comes wants outs mkinds mcomes mwants mouts : Nat → Int32} {b : Int64} (hP : pOK P) (hR : RP P law cnt kinds comes wants outs) (hM : RP P mlaw mcnt mkinds mcomes mwants mouts) (t1 t2 : Int32) (t3 : Int64) (t4 t5 : Int32) (row sa : Nat → Int32) (many now dnI : Int32) (row2 sa2 : Nat → Int32) :
    ∃ o o', Tq_loss law cnt b kinds comes wants outs t1 t2 t3 t4 t5 row sa = some o ∧ Mo_loss mcnt mlaw b mkinds mcomes mwants mouts many now dnI row2 sa2 = some o' ∧ o.1 = o'.1 := by
  have hc := hP.2.1
  have h128 := pow7 hc
  obtain ⟨o, e1, e2⟩ := Co_waitOfAll_ok (b := b) hP hR t1 t2 t3 t4 t5 row sa
  obtain ⟨o', e3, e4⟩ := Mo_waitSum_ok (b := b) hP hM many now dnI row2 sa2
  have e5 := Ch_ls_loop hP hR.2.2.2.1 hR.2.2.2.2.1 200 0 (2 ^ pCnt P - 1) 0 0 (by omega) (by omega) (by omega)
  have e6 := Mo_ls_loop hP hM.2.2.2.1 hM.2.2.2.2.1 200 0 (2 ^ pCnt P - 1) 0 0 0 (by omega) (by omega) (by omega) (by omega) (fun j hj => by rw [all_bit hj, Nat.zero_testBit]; rfl)
  generalize lsR P 200 0 (2 ^ pCnt P - 1, 0, 0) = zz at e5 e6
  obtain ⟨rfl, rfl, -⟩ := id hR
  obtain ⟨rfl, rfl, -⟩ := id hM
  unfold Tq_loss Mo_loss
  rcases none_cases hc with ⟨c0, h1, h2⟩ | ⟨c0, h1, h2⟩
  · rw [h1, if_pos h2]
    simp only [Option.bind_some, n10, if_false]
    exact ⟨_, _, rfl, rfl, rfl⟩
  · rw [h1, if_neg h2]
    simp only [Option.bind_some, if_true]
    unfold Ch_waitByLeastFirst Mo_leastSum
    rw [ever_ok hc]
    simp only [Option.bind_some]
    have e5 : Ch_waitByLeastFirst_l13 (nI (pCnt P)) comes wants (nI (2 ^ pCnt P - 1)) 0 0 0 = some zz := e5
    have e6 : Mo_leastSum_l9 (nI (pCnt P)) mcomes mwants 0 0 0 0 = some zz := e6
    rw [e1, e3, e5, e6]
    simp only [Option.bind_some]
    rw [e2, e4]
    exact ⟨_, _, rfl, rfl, rfl⟩

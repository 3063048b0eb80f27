theorem oI_some (k : Nat) : oI (some k) = nI k := rfl
theorem one_ne0 : ¬ (1 : Int32) = 0 := by decide
theorem sg_l {σ ρ : Type} {x : σ} {k : σ → Option ρ} : sg k (Sum.inl x : σ ⊕ ρ) = k x := rfl
/-! ===== other minutes to come, other minutes to run out ===== -/
theorem tf_loop (ol oc : Int32) (ob : Int64) (k c w r : Nat → Int32) (gl gc0 : Int32) (gb : Int64) : ∀ (d i : Nat) (gk gc gw go : Nat → Int32), 7 = i + d → ∃ k' c' w' r', Pl_takeFrom_l26 ol oc ob k c w r (nI i) gl gc0 gb gk gc gw go = some (gl, gc0, gb, k', c', w', r') ∧ ∀ j, j < 7 → (k' j = if i ≤ j then k j else gk j) ∧ (c' j = if i ≤ j then c j else gc j) ∧ (w' j = if i ≤ j then w j else gw j) ∧ (r' j = if i ≤ j then r j else go j)
  | 0, i, gk, gc, gw, go, hd => by
    refine ⟨gk, gc, gw, go, ?_, fun j hj => by simp only [show ¬ i ≤ j by omega, if_false, true_and, and_self]⟩
    rw [Pl_takeFrom_l26_eq]
    unfold Pl_takeFrom_b26
    rw [li7, if_pos (nI_le (by omega) (by omega)), pu_rt]
  | d + 1, i, gk, gc, gw, go, hd => by
    rw [Pl_takeFrom_l26_eq]
    unfold Pl_takeFrom_b26
    simp only [lt]
    rw [li7, if_neg (nI_ge (by omega) (by omega))]
    simp only [if_pos (ck_nI (show i < 7 by omega) (by omega)), nI_1, pu_jp, Pl_takeFrom_l26_fd]
    rw [nI_clamp (by omega)]
    obtain ⟨k', c', w', r', e1, e2⟩ := tf_loop ol oc ob k c w r gl gc0 gb d (i + 1) (upd gk i (k i)) (upd gc i (c i)) (upd gw i (w i)) (upd go i (r i)) (by omega)
    refine ⟨k', c', w', r', e1, fun j hj => ?_⟩
    obtain ⟨q1, q2, q3, q4⟩ := e2 j hj
    rw [q1, q2, q3, q4]
    simp only [upd_eq]
    by_cases z : j = i
    · subst z
      simp only [show ¬ j + 1 ≤ j by omega, Nat.le_refl, if_true, if_false, and_self]
    · by_cases z2 : i ≤ j
      · simp only [show i + 1 ≤ j by omega, z2, if_true, and_self]
      · simp only [show ¬ i + 1 ≤ j by omega, z2, z, if_false, and_self]
theorem takeFrom_ok (ol oc : Int32) (ob : Int64) (k c w r : Nat → Int32) (gl gc0 : Int32) (gb : Int64) (gk gc gw go : Nat → Int32) : ∃ k' c' w' r', Pl_takeFrom ol oc ob k c w r gl gc0 gb gk gc gw go = some (ol, oc, ob, k', c', w', r') ∧ ∀ j, j < 7 → k' j = k j ∧ c' j = c j ∧ w' j = w j ∧ r' j = r j := by
  obtain ⟨k', c', w', r', e1, e2⟩ := tf_loop ol oc ob k c w r ol oc ob 7 0 gk gc gw go (by omega)
  refine ⟨k', c', w', r', e1, fun j hj => ?_⟩
  have := e2 j hj
  simpa using this
def setCm (P : Pln) (p m : Nat) : Pln := (pLaw P, pCnt P, pKd P, fun j => if j = p then m else pCm P j, pWt P, pOt P)
def setOt (P : Pln) (p : Nat) (v : Option Nat) : Pln := (pLaw P, pCnt P, pKd P, pCm P, pWt P, fun j => if j = p then v else pOt P j)
theorem setCm_ok {P : Pln} (hP : pOK P) {p m : Nat} (hm : m < 60) : pOK (setCm P p m) := by
  refine ⟨hP.1, hP.2.1, fun j hj => ?_⟩
  have h := hP.2.2 j hj
  refine ⟨h.1, ?_, h.2.2⟩
  show (if j = p then m else pCm P j) < 60
  by_cases c : j = p
  · rw [if_pos c]; exact hm
  · rw [if_neg c]; exact h.2.1
theorem setOt_ok {P : Pln} (hP : pOK P) {p : Nat} {v : Option Nat} (hv : ∀ m, v = some m → m < 60) : pOK (setOt P p v) := by
  refine ⟨hP.1, hP.2.1, fun j hj => ?_⟩
  have h := hP.2.2 j hj
  refine ⟨h.1, h.2.1, h.2.2.1, h.2.2.2.1, ?_⟩
  show ∀ m, (if j = p then v else pOt P j) = some m → m < 60
  by_cases c : j = p
  · rw [if_pos c]; exact hv
  · rw [if_neg c]; exact h.2.2.2.2
theorem setCm_RP {P : Pln} {law cnt : Int32} {kinds comes wants outs : Nat → Int32} (hR : RP P law cnt kinds comes wants outs) {p m : Nat} {g : Nat → Int32} (hg : ∀ j, j < pCnt P → j ≠ p → g j = comes j) : RP (setCm P p m) law cnt kinds (upd g p (nI m)) wants outs := by
  obtain ⟨h1, h2, h3, h4, h5, h6⟩ := hR
  refine ⟨h1, h2, h3, ?_, h5, h6⟩
  intro j hj
  show upd g p (nI m) j = nI (if j = p then m else pCm P j)
  rw [upd_eq]
  by_cases c : j = p
  · rw [if_pos c, if_pos c]
  · rw [if_neg c, if_neg c, hg j hj c]; exact h4 j hj
theorem setOt_RP {P : Pln} {law cnt : Int32} {kinds comes wants outs : Nat → Int32} (hR : RP P law cnt kinds comes wants outs) {p : Nat} {v : Option Nat} {g : Nat → Int32} (hg : ∀ j, j < pCnt P → j ≠ p → g j = outs j) : RP (setOt P p v) law cnt kinds comes wants (upd g p (oI v)) := by
  obtain ⟨h1, h2, h3, h4, h5, h6⟩ := hR
  refine ⟨h1, h2, h3, h4, h5, ?_⟩
  intro j hj
  show upd g p (oI v) j = oI (if j = p then v else pOt P j)
  rw [upd_eq]
  by_cases c : j = p
  · rw [if_pos c, if_pos c]
  · rw [if_neg c, if_neg c, hg j hj c]; exact h6 j hj
theorem RP_same {P : Pln} {law cnt : Int32} {kinds comes wants outs k c w r : Nat → Int32} (hP : pOK P) (hR : RP P law cnt kinds comes wants outs) (h : ∀ j, j < 7 → k j = kinds j ∧ c j = comes j ∧ w j = wants j ∧ r j = outs j) : RP P law cnt k c w r := by
  obtain ⟨h1, h2, h3, h4, h5, h6⟩ := hR
  have h7 := hP.2.1
  exact ⟨h1, h2, fun j hj => ((h j (by omega)).1).trans (h3 j hj), fun j hj => ((h j (by omega)).2.1).trans (h4 j hj), fun j hj => ((h j (by omega)).2.2.1).trans (h5 j hj), fun j hj => ((h j (by omega)).2.2.2).trans (h6 j hj)⟩
/-- the latest of the soonest -/
def bst (f : Nat → Nat) : Nat → Nat → Option Nat × Nat → Option Nat × Nat
  | 0, _, z => z
  | d + 1, i, z => bst f d (i + 1) (if f i ≤ z.2 then (some i, f i) else z)
theorem bst_s (f : Nat → Nat) (d i : Nat) (z : Option Nat × Nat) : bst f (d + 1) i z = bst f d (i + 1) (if f i ≤ z.2 then (some i, f i) else z) := rfl
theorem bst_stop {f : Nat → Nat} : ∀ (d i : Nat) (z : Option Nat × Nat), (∀ j, i ≤ j → j < i + d → j ≤ f j) → z.2 < i → bst f d i z = z
  | 0, _, _, _, _ => rfl
  | d + 1, i, z, h, hz => by
    have := h i (Nat.le_refl i) (by omega)
    show bst f d (i + 1) (if f i ≤ z.2 then (some i, f i) else z) = z
    rw [if_neg (by omega)]
    exact bst_stop d (i + 1) z (fun j h1 h2 => h j (by omega) (by omega)) (by omega)
/-- when p would be served, if it came at m -/
def fB (P : Pln) (b : Int64) (p m : Nat) : Nat := SV (setCm P p m) b p
theorem fB_ge {P : Pln} (hP : pOK P) (b : Int64) {p m : Nat} (hp : p < pCnt P) (hm : m < 60) : m ≤ fB P b p m ∧ fB P b p m < 200 := by
  have h := SV_ge (setCm_ok hP (p := p) hm) b (p := p) hp
  have e : pCm (setCm P p m) p = m := by
    show (if p = p then m else pCm P p) = m
    rw [if_pos rfl]
  rw [e] at h
  exact h
section
variable {P : Pln} {law cnt : Int32} {kinds comes wants outs : Nat → Int32} {b : Int64} {p : Nat}
theorem Ch_best_loop (hP : pOK P) (hp : p < pCnt P) (u1 u2 : Int32) (u3 : Int64) (u4 u5 u6 u7 : Nat → Int32) (hR : RP P law cnt kinds comes wants outs) :
    ∀ (d i : Nat) (z1 : Option Nat) (z2 : Nat) (bI sI : Int32) (t1 t2 : Int32) (t3 : Int64) (t4 t5 : Int32) (row sa g : Nat → Int32), bI = oI z1 → sI = nI z2 → 60 = i + d → (∀ k, z1 = some k → k < 60) → z2 < 200 → (∀ j, j < pCnt P → j ≠ p → g j = comes j) →
      ∃ o, Ch_findBest_l23 (nI p) u1 u2 u3 u4 u5 u6 u7 (nI i) bI sI t1 t2 t3 t4 t5 row sa law cnt b kinds g wants outs = some o ∧ o.1 = oI (bst (fB P b p) d i (z1, z2)).1 ∧ o.2.1 = nI (bst (fB P b p) d i (z1, z2)).2
  | 0, i, z1, z2, bI, sI, t1, t2, t3, t4, t5, row, sa, g, hb, hs, hd, hz1, hz2, hg => by
    subst hb hs
    rw [Ch_findBest_l23_eq]
    unfold Ch_findBest_b23
    rw [show (60 : Int32) = nI 60 from rfl, if_pos (nI_le (by omega) (by omega)), pu_rt]
    exact ⟨_, rfl, rfl, rfl⟩
  | d + 1, i, z1, z2, bI, sI, t1, t2, t3, t4, t5, row, sa, g, hb, hs, hd, hz1, hz2, hg => by
    subst hb hs
    have hc := hP.2.1
    rw [Ch_findBest_l23_eq]
    unfold Ch_findBest_b23
    rw [show (60 : Int32) = nI 60 from rfl, if_neg (nI_ge (by omega) (by omega))]
    rcases Nat.lt_or_ge z2 i with c | c
    · rw [if_pos (nI_lt c (by omega)), pu_rt]
      refine ⟨_, rfl, ?_, ?_⟩
      · rw [bst_stop (d + 1) i (z1, z2) (fun j h1 h2 => (fB_ge hP b hp (by omega)).1) c]
      · rw [bst_stop (d + 1) i (z1, z2) (fun j h1 h2 => (fB_ge hP b hp (by omega)).1) c]
    · rw [if_neg (nI_nlt c (by omega)), if_pos (ck_nI (by omega) (by omega)), nI_clamp (by omega)]
      obtain ⟨o, e1, e2⟩ := Co_servedOf_ok (b := b) (setCm_ok hP (p := p) (m := i) (by omega)) (setCm_RP hR hg) (p := p) hp t1 t2 t3 t4 t5 row sa
      have hf := fB_ge hP b hp (m := i) (by omega)
      have e2 : o.1 = nI (fB P b p i) := e2
      rw [e1]
      simp only [Option.bind_some, lt, pu_if]
      rw [e2, nI_1]
      simp only [pu_jp, Ch_findBest_l23_fd, sg_l]
      have hg' : ∀ j, j < pCnt P → j ≠ p → upd g p (nI i) j = comes j := fun j hj hne => by rw [upd_eq, if_neg hne]; exact hg j hj hne
      rw [bst_s]
      by_cases c2 : fB P b p i ≤ z2
      · rw [if_pos (nI_le c2 (by omega)), if_pos c2]
        exact Ch_best_loop hP hp u1 u2 u3 u4 u5 u6 u7 hR d (i + 1) (some i) (fB P b p i) _ _ _ _ _ _ _ _ _ _ (oI_some i).symm rfl (by omega) (fun k e => by cases e; omega) hf.2 hg'
      · rw [if_neg (nI_ge (by omega) (by omega)), if_neg c2]
        exact Ch_best_loop hP hp u1 u2 u3 u4 u5 u6 u7 hR d (i + 1) z1 z2 _ _ _ _ _ _ _ _ _ _ rfl rfl (by omega) hz1 hz2 hg'
theorem Mo_best_loop (hP : pOK P) (hp : p < pCnt P) (hR : RP P law cnt kinds comes wants outs) (what was : Int32) :
    ∀ (d i : Nat) (z1 : Option Nat) (z2 : Nat) (bI sI : Int32) (many now dnI : Int32) (g row sa : Nat → Int32), bI = oI z1 → sI = nI z2 → 60 = i + d → (∀ k, z1 = some k → k < 60) → z2 ≤ 200 → (∀ j, j < pCnt P → j ≠ p → g j = comes j) →
      ∃ many' now' dn' g' row' sa', Mo_best_l42 (nI p) what cnt law b kinds wants outs was bI sI (nI i) many now dnI g row sa = Mo_best_j90 (nI p) what cnt law b kinds wants outs was (oI (bst (fB P b p) d i (z1, z2)).1) (nI (bst (fB P b p) d i (z1, z2)).2) many' now' dn' g' row' sa' ∧ (∀ j, j < pCnt P → j ≠ p → g' j = comes j)
  | 0, i, z1, z2, bI, sI, many, now, dnI, g, row, sa, hb, hs, hd, hz1, hz2, hg => by
    subst hb hs
    rw [Mo_best_l42_eq]
    unfold Mo_best_b42
    rw [show (60 : Int32) = nI 60 from rfl, if_pos (nI_le (by omega) (by omega)), pu_ex]
    exact ⟨_, _, _, _, _, _, rfl, hg⟩
  | d + 1, i, z1, z2, bI, sI, many, now, dnI, g, row, sa, hb, hs, hd, hz1, hz2, hg => by
    subst hb hs
    have hc := hP.2.1
    rw [Mo_best_l42_eq]
    unfold Mo_best_b42
    rw [show (60 : Int32) = nI 60 from rfl, if_neg (nI_ge (by omega) (by omega)), if_pos (ck_nI (by omega) (by omega)), nI_clamp (by omega)]
    obtain ⟨many', now', dn', row', sa', e1, e2⟩ := Mo_goNow_ok (b := b) (setCm_ok hP (p := p) (m := i) (by omega)) (setCm_RP hR hg) many now dnI row sa
    have hf := fB_ge hP b hp (m := i) (by omega)
    have e2 : sa' p = nI (fB P b p i) := e2 p hp
    rw [e1]
    simp only [Option.bind_some, lt, if_pos (ck_nI (show p < 7 by omega) (by omega))]
    rw [e2, nI_1]
    simp only [pu_if, pu_jp, Mo_best_l42_fd, sg_l, Option.bind_some]
    have hg' : ∀ j, j < pCnt P → j ≠ p → upd g p (nI i) j = comes j := fun j hj hne => by rw [upd_eq, if_neg hne]; exact hg j hj hne
    rw [bst_s]
    by_cases c2 : fB P b p i ≤ z2
    · rw [if_neg (nI_nlt c2 (by omega)), if_pos c2]
      exact Mo_best_loop hP hp hR what was d (i + 1) (some i) (fB P b p i) _ _ _ _ _ _ _ _ (oI_some i).symm rfl (by omega) (fun k e => by cases e; omega) (by omega) hg'
    · rw [if_pos (nI_lt (by omega) (by omega)), if_neg c2]
      exact Mo_best_loop hP hp hR what was d (i + 1) z1 z2 _ _ _ _ _ _ _ _ rfl rfl (by omega) hz1 hz2 hg'
end
theorem bst_eq {f : Nat → Nat} (h : f 0 ≤ 199) : bst f 60 0 (none, 199) = bst f 60 0 (none, 200) := by
  have e : ∀ z, bst f 60 0 z = bst f 59 1 (if f 0 ≤ z.2 then (some 0, f 0) else z) := fun z => bst_s f 59 0 z
  rw [e, e, if_pos h, if_pos (show f 0 ≤ 200 by omega)]
theorem what_cases (x : Int32) : (x = 0 ∧ Mo_in x.toInt64 0 1 = some 1) ∨ (x = 1 ∧ Mo_in x.toInt64 0 1 = some 1) ∨ (¬ x = 0 ∧ ¬ x = 1 ∧ Mo_in x.toInt64 0 1 = some 0) := by
  rcases in_cases x (n := 2) (by omega) 1 (by decide) with ⟨k, hk, e, h1⟩ | ⟨c, h1⟩
  · have : k = 0 ∨ k = 1 := by omega
    rcases this with r | r
    · subst r; exact Or.inl ⟨e, h1⟩
    · subst r; exact Or.inr (Or.inl ⟨e, h1⟩)
  · refine Or.inr (Or.inr ⟨fun e => ?_, fun e => ?_, h1⟩)
    · rw [e] at c; revert c; decide
    · rw [e] at c; revert c; decide
/-! best -/
theorem T_best {P : Pln} {law cnt mlaw mcnt : Int32} {kinds comes wants outs mkinds mcomes mwants mouts : Nat → Int32} {b : Int64} (hP : pOK P) (hR : RP P law cnt kinds comes wants outs) (hM : RP P mlaw mcnt mkinds mcomes mwants mouts) (x what : Int32) (s1 s2 t1 t2 : Int32) (t3 : Int64) (t4 t5 : Int32) (row sa : Nat → Int32) (gl gc0 : Int32) (gb : Int64) (gk gc gw go : Nat → Int32) (many now dnI : Int32) (row2 sa2 : Nat → Int32) :
    ∃ o o', Tq_best x what law cnt b kinds comes wants outs s1 s2 t1 t2 t3 t4 t5 row sa gl gc0 gb gk gc gw go = some o ∧ Mo_best x what mcnt mlaw b mkinds mwants mouts many now dnI mcomes row2 sa2 = some o' ∧ o.1 = o'.1 ∧ RP P mlaw mcnt mkinds o'.2.2.2.2.1 mwants mouts := by
  have hc := hP.2.1
  obtain ⟨rfl, rfl, -⟩ := id hR
  obtain ⟨rfl, rfl, -⟩ := id hM
  unfold Tq_best Mo_best
  rcases per_cases x hc with ⟨p, hp, e, h1, h2⟩ | ⟨h1, h2⟩
  · rw [h1, h2]
    simp only [Option.bind_some, n10, if_false, if_true]
    subst e
    have main : ∃ o o', Tq_best_j25 (nI p) what (nI (pLaw P)) (nI (pCnt P)) b kinds comes wants outs s1 s2 t1 t2 t3 t4 t5 row sa gl gc0 gb gk gc gw go = some o ∧ (if ck (nI p) 7 = true then lt (mcomes (nI p).toNatClampNeg) fun y8 => Mo_best_l42 (nI p) what (nI (pCnt P)) (nI (pLaw P)) b mkinds mwants mouts y8 (-9) 200 0 many now dnI mcomes row2 sa2 else none) = some o' ∧ o.1 = o'.1 ∧ RP P (nI (pLaw P)) (nI (pCnt P)) mkinds o'.2.2.2.2.1 mwants mouts := by
      obtain ⟨k', c', w', r', g1, g2⟩ := takeFrom_ok (nI (pLaw P)) (nI (pCnt P)) b kinds comes wants outs gl gc0 gb gk gc gw go
      have hR' : RP P (nI (pLaw P)) (nI (pCnt P)) k' c' w' r' := RP_same hP hR g2
      obtain ⟨o, e1, e2, e3⟩ := Ch_best_loop (b := b) hP hp (nI (pLaw P)) (nI (pCnt P)) b kinds comes wants outs hR' 60 0 none 199 _ _ t1 t2 t3 t4 t5 row sa c' rfl rfl (by omega) (fun k e => by cases e) (by decide) (fun j _ _ => rfl)
      obtain ⟨many', now', dn', g', row', sa', e4, e5⟩ := Mo_best_loop (b := b) hP hp hM what (mcomes p) 60 0 none 200 _ _ many now dnI mcomes row2 sa2 rfl rfl (by omega) (fun k e => by cases e) (by decide) (fun j _ _ => rfl)
      have hf0 : fB P b p 0 ≤ 199 := by have := (fB_ge hP b hp (m := 0) (by omega)).2; omega
      rw [bst_eq hf0] at e2 e3
      generalize bst (fB P b p) 60 0 (none, 200) = zz at e2 e3 e4
      unfold Tq_best_j25 Ch_findBest
      rw [g1]
      simp only [Option.bind_some]
      have e1 : Ch_findBest_l23 (nI p) (nI (pLaw P)) (nI (pCnt P)) b kinds comes wants outs 0 (-9) 199 t1 t2 t3 t4 t5 row sa (nI (pLaw P)) (nI (pCnt P)) b k' c' w' r' = some o := e1
      rw [e1, if_pos (ck_nI (by omega) (by omega)), nI_clamp (by omega)]
      simp only [Option.bind_some, lt]
      have e4 : Mo_best_l42 (nI p) what (nI (pCnt P)) (nI (pLaw P)) b mkinds mwants mouts (mcomes p) (-9) 200 0 many now dnI mcomes row2 sa2 = _ := e4
      rw [e4]
      unfold Mo_best_j90
      rw [if_pos (ck_nI (by omega) (by omega)), nI_clamp (by omega)]
      have hRP : RP P (nI (pLaw P)) (nI (pCnt P)) mkinds (upd g' p (mcomes p)) mwants mouts := by
        obtain ⟨q1, q2, q3, q4, q5, q6⟩ := hM
        refine ⟨q1, q2, q3, ?_, q5, q6⟩
        intro j hj
        rw [upd_eq]
        by_cases c : j = p
        · rw [if_pos c, c]; exact q4 p hp
        · rw [if_neg c, e5 j hj c]; exact q4 j hj
      by_cases w0 : what = 0
      · rw [if_pos w0, if_pos w0]
        refine ⟨_, _, rfl, rfl, ?_, hRP⟩
        dsimp only
        exact e2
      · rw [if_neg w0, if_neg w0]
        refine ⟨_, _, rfl, rfl, ?_, hRP⟩
        dsimp only
        exact e3
    rcases what_cases what with ⟨w, h3⟩ | ⟨w, h3⟩ | ⟨w0, w1, h3⟩
    · rw [h3, if_pos w]
      simp only [Option.bind_some, n10, if_false]
      exact main
    · have w0 : ¬ what = 0 := fun z => one_ne0 (w.symm.trans z)
      rw [h3, if_neg w0, if_pos w]
      simp only [Option.bind_some, n10, if_false]
      exact main
    · rw [h3, if_neg w0, if_neg w1]
      simp only [Option.bind_some, if_true]
      exact ⟨_, _, rfl, rfl, rfl, hM⟩
  · rw [h1, h2]
    simp only [Option.bind_some, n10, if_false, if_true]
    exact ⟨_, _, rfl, rfl, rfl, hM⟩

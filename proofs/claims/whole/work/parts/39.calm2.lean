/-! ===== rounds ===== -/
def rnd (b : Int64) : Nat → Nat → Pln → Bool → Pln × Bool
  | 0, _, P, fl => (P, fl)
  | d + 1, i, P, fl => rnd b d (i + 1) (setCm P i (stl P b i)) (fl || decide (stl P b i ≠ pCm P i))
theorem rnd_s (b : Int64) (d i : Nat) (P : Pln) (fl : Bool) : rnd b (d + 1) i P fl = rnd b d (i + 1) (setCm P i (stl P b i)) (fl || decide (stl P b i ≠ pCm P i)) := rfl
theorem rnd_ok {b : Int64} : ∀ (d i : Nat) (P : Pln) (fl : Bool), pOK P → pCnt P = i + d → pOK (rnd b d i P fl).1 ∧ pCnt (rnd b d i P fl).1 = pCnt P
  | 0, _, _, _, h, _ => ⟨h, rfl⟩
  | d + 1, i, P, fl, h, hd => by
    rw [rnd_s]
    exact rnd_ok d (i + 1) (setCm P i (stl P b i)) _ (setCm_ok h (stl_lt h b (by omega))) (by show pCnt P = i + 1 + d; omega)
def bI (fl : Bool) : Int32 := if fl = true then 1 else 0
def calR (b : Int64) : Nat → Nat → Pln → Pln × Option Nat
  | 0, _, P => (P, none)
  | d + 1, r, P => if (rnd b (pCnt P) 0 P false).2 = true then calR b d (r + 1) (rnd b (pCnt P) 0 P false).1 else ((rnd b (pCnt P) 0 P false).1, some r)
theorem calR_s (b : Int64) (d r : Nat) (P : Pln) : calR b (d + 1) r P = if (rnd b (pCnt P) 0 P false).2 = true then calR b d (r + 1) (rnd b (pCnt P) 0 P false).1 else ((rnd b (pCnt P) 0 P false).1, some r) := rfl
theorem calR_ok {b : Int64} : ∀ (d r : Nat) (P : Pln), pOK P → pOK (calR b d r P).1 ∧ pCnt (calR b d r P).1 = pCnt P
  | 0, _, _, h => ⟨h, rfl⟩
  | d + 1, r, P, h => by
    have h1 := rnd_ok (b := b) (pCnt P) 0 P false h (by omega)
    rw [calR_s]
    by_cases c : (rnd b (pCnt P) 0 P false).2 = true
    · rw [if_pos c]
      have h2 := calR_ok (b := b) d (r + 1) _ h1.1
      exact ⟨h2.1, h2.2.trans h1.2⟩
    · rw [if_neg c]; exact h1
section
variable {law : Int32} {kinds wants outs : Nat → Int32} {b : Int64}
theorem Ch_rnd_loop {n : Nat} (u1 u2 : Int32) (u3 : Int64) (u4 u5 u6 u7 : Nat → Int32) (r : Nat) (rI : Int32) :
    ∀ (d i : Nat) (P : Pln) (fl : Bool) (fI : Int32) (t1 t2 : Int32) (t3 : Int64) (t4 t5 : Int32) (row sa g : Nat → Int32), pOK P → pCnt P = n → fI = bI fl → n = i + d → RP P law (nI n) kinds g wants outs →
      ∃ t1' t2' t3' t4' t5' row' sa' g', Ch_findCalm_l36 u1 u2 u3 u4 u5 u6 u7 (nI r) fI (nI i) rI t1 t2 t3 t4 t5 row sa law (nI n) b kinds g wants outs = Ch_findCalm_l16 u1 u2 u3 u4 u5 u6 u7 (nI (r + 1)) (if (rnd b d i P fl).2 = true then rI else nI r) t1' t2' t3' t4' t5' row' sa' law (nI n) b kinds g' wants outs ∧ RP (rnd b d i P fl).1 law (nI n) kinds g' wants outs
  | 0, i, P, fl, fI, t1, t2, t3, t4, t5, row, sa, g, hP, hn, hf, hd, hR => by
    subst hf
    have hc := hP.2.1
    rw [Ch_findCalm_l36_eq]
    unfold Ch_findCalm_b36
    rw [if_pos (nI_le (by omega) (by omega))]
    simp only [lt, pu_if, pu_jp, sg_l, Option.bind_some, Ch_findCalm_l16_fd, nI_1]
    cases fl with
    | true =>
      rw [if_neg (show ¬ bI true = 0 by decide)]
      exact ⟨_, _, _, _, _, _, _, _, rfl, hR⟩
    | false =>
      rw [if_pos (show bI false = 0 from rfl)]
      exact ⟨_, _, _, _, _, _, _, _, rfl, hR⟩
  | d + 1, i, P, fl, fI, t1, t2, t3, t4, t5, row, sa, g, hP, hn, hf, hd, hR => by
    subst hf
    have hc := hP.2.1
    rw [Ch_findCalm_l36_eq]
    unfold Ch_findCalm_b36
    rw [if_neg (nI_ge (by omega) (by omega))]
    obtain ⟨o, e1, e2, e3⟩ := Ch_otw_ok (b := b) (p := i) hP (by omega) hR t1 t2 t3 t4 t5 row sa
    rw [e1]
    simp only [Option.bind_some, lt, pu_if, pu_jp, sg_l, Ch_findCalm_l36_fd, nI_1]
    rw [rnd_s]
    have hok := setCm_ok hP (p := i) (stl_lt hP b (p := i) (by omega))
    by_cases c : stl P b i = pCm P i
    · rw [e2, if_pos c, if_pos rfl]
      exact Ch_rnd_loop u1 u2 u3 u4 u5 u6 u7 r rI d (i + 1) _ _ _ _ _ _ _ _ _ _ _ hok hn (by simp [c]) (by omega) e3
    · rw [e2, if_neg c, if_neg one_ne0]
      exact Ch_rnd_loop u1 u2 u3 u4 u5 u6 u7 r rI d (i + 1) _ _ _ _ _ _ _ _ _ _ _ hok hn (by simp [c, bI]) (by omega) e3
theorem Ch_calm_loop {n : Nat} (u1 u2 : Int32) (u3 : Int64) (u4 u5 u6 u7 : Nat → Int32) :
    ∀ (d r : Nat) (P : Pln) (t1 t2 : Int32) (t3 : Int64) (t4 t5 : Int32) (row sa g : Nat → Int32), pOK P → pCnt P = n → 40 = r + d → RP P law (nI n) kinds g wants outs →
      ∃ o, Ch_findCalm_l16 u1 u2 u3 u4 u5 u6 u7 (nI r) (-9) t1 t2 t3 t4 t5 row sa law (nI n) b kinds g wants outs = some o ∧ o.1 = oI (calR b d r P).2 ∧ RP (calR b d r P).1 law (nI n) kinds o.2.2.2.2.2.2.2.2.2.2.2.2.1 wants outs
  | 0, r, P, t1, t2, t3, t4, t5, row, sa, g, hP, hn, hd, hR => by
    rw [Ch_findCalm_l16_eq]
    unfold Ch_findCalm_b16
    rw [show (40 : Int32) = nI 40 from rfl, if_pos (nI_le (by omega) (by omega)), pu_rt]
    exact ⟨_, rfl, rfl, hR⟩
  | d + 1, r, P, t1, t2, t3, t4, t5, row, sa, g, hP, hn, hd, hR => by
    rw [Ch_findCalm_l16_eq]
    unfold Ch_findCalm_b16
    rw [show (40 : Int32) = nI 40 from rfl, if_neg (nI_ge (by omega) (by omega)), if_pos rfl, pu_jp, Ch_findCalm_l36_fd]
    obtain ⟨t1', t2', t3', t4', t5', row', sa', g', e1, e2⟩ := Ch_rnd_loop (b := b) u1 u2 u3 u4 u5 u6 u7 r (-9) n 0 P false 0 t1 t2 t3 t4 t5 row sa g hP hn rfl (by omega) hR
    have e1 : Ch_findCalm_l36 u1 u2 u3 u4 u5 u6 u7 (nI r) 0 0 (-9) t1 t2 t3 t4 t5 row sa law (nI n) b kinds g wants outs = _ := e1
    have hok := rnd_ok (b := b) n 0 P false hP (by omega)
    rw [e1, calR_s, hn]
    by_cases c : (rnd b n 0 P false).2 = true
    · rw [if_pos c, if_pos c]
      exact Ch_calm_loop u1 u2 u3 u4 u5 u6 u7 d (r + 1) _ _ _ _ _ _ _ _ _ hok.1 (hok.2.trans hn) (by omega) e2
    · rw [if_neg c, if_neg c, Ch_findCalm_l16_eq]
      unfold Ch_findCalm_b16
      by_cases c2 : 40 ≤ nI (r + 1)
      · rw [if_pos c2, pu_rt]
        exact ⟨_, rfl, rfl, e2⟩
      · rw [if_neg c2, if_neg (fun z => neg9 (by omega) z.symm), pu_rt]
        exact ⟨_, rfl, rfl, e2⟩
theorem Mo_rnd_loop {n : Nat} (pp : Int32) (r : Nat) (w : Nat → Int32) :
    ∀ (d i : Nat) (P : Pln) (fl : Bool) (fI : Int32) (many now dnI : Int32) (g row sa : Nat → Int32), pOK P → pCnt P = n → fI = bI fl → n = i + d → RP P law (nI n) kinds g wants outs →
      ∃ many' now' dn' g' row' sa', Mo_calm_l78 pp (nI n) law b kinds wants outs (nI r) fI (nI i) many now dnI g row sa w = Mo_calm_l62 pp (nI n) law b kinds wants outs (if (rnd b d i P fl).2 = true then -9 else nI r) (nI (r + 1)) many' now' dn' g' row' sa' w ∧ RP (rnd b d i P fl).1 law (nI n) kinds g' wants outs
  | 0, i, P, fl, fI, many, now, dnI, g, row, sa, hP, hn, hf, hd, hR => by
    subst hf
    have hc := hP.2.1
    rw [Mo_calm_l78_eq]
    unfold Mo_calm_b78
    rw [if_pos (nI_le (by omega) (by omega))]
    simp only [lt, pu_if, pu_jp, sg_l, Option.bind_some, Mo_calm_l62_fd, nI_1]
    cases fl with
    | true =>
      rw [if_neg (show ¬ bI true = 0 by decide)]
      exact ⟨_, _, _, _, _, _, rfl, hR⟩
    | false =>
      rw [if_pos (show bI false = 0 from rfl)]
      exact ⟨_, _, _, _, _, _, rfl, hR⟩
  | d + 1, i, P, fl, fI, many, now, dnI, g, row, sa, hP, hn, hf, hd, hR => by
    subst hf
    have hc := hP.2.1
    rw [Mo_calm_l78_eq]
    unfold Mo_calm_b78
    rw [if_neg (nI_ge (by omega) (by omega))]
    obtain ⟨o, e1, e2, e3⟩ := Mo_stl_ok (b := b) (p := i) hP (by omega) hR many now dnI row sa
    rw [e1]
    simp only [Option.bind_some, lt, pu_if, pu_jp, sg_l, Mo_calm_l78_fd, nI_1]
    rw [rnd_s]
    have hok := setCm_ok hP (p := i) (stl_lt hP b (p := i) (by omega))
    by_cases c : stl P b i = pCm P i
    · rw [e2, if_pos c, if_pos rfl]
      cases fl with
      | true =>
        rw [if_neg (show ¬ bI true = 0 by decide)]
        exact Mo_rnd_loop pp r w d (i + 1) _ _ _ _ _ _ _ _ _ hok hn (by simp [c, bI]) (by omega) e3
      | false =>
        rw [if_pos (show bI false = 0 from rfl)]
        exact Mo_rnd_loop pp r w d (i + 1) _ _ _ _ _ _ _ _ _ hok hn (by simp [c, bI]) (by omega) e3
    · rw [e2, if_neg c, if_neg one_ne0]
      exact Mo_rnd_loop pp r w d (i + 1) _ _ _ _ _ _ _ _ _ hok hn (by simp [c, bI]) (by omega) e3
theorem Mo_calm_loop {n : Nat} (pp : Int32) (w : Nat → Int32) :
    ∀ (d r : Nat) (P : Pln) (many now dnI : Int32) (g row sa : Nat → Int32), pOK P → pCnt P = n → 40 = r + d → RP P law (nI n) kinds g wants outs →
      ∃ many' now' dn' g' row' sa', Mo_calm_l62 pp (nI n) law b kinds wants outs (-9) (nI r) many now dnI g row sa w = Mo_calm_j132 pp (nI n) law b kinds wants outs (oI (calR b d r P).2) many' now' dn' g' row' sa' w ∧ RP (calR b d r P).1 law (nI n) kinds g' wants outs
  | 0, r, P, many, now, dnI, g, row, sa, hP, hn, hd, hR => by
    rw [Mo_calm_l62_eq]
    unfold Mo_calm_b62
    rw [show (40 : Int32) = nI 40 from rfl, if_pos (nI_le (by omega) (by omega)), pu_ex]
    exact ⟨_, _, _, _, _, _, rfl, hR⟩
  | d + 1, r, P, many, now, dnI, g, row, sa, hP, hn, hd, hR => by
    rw [Mo_calm_l62_eq]
    unfold Mo_calm_b62
    rw [show (40 : Int32) = nI 40 from rfl, if_neg (nI_ge (by omega) (by omega)), if_neg (show ¬ (0 : Int32) ≤ -9 by decide), pu_jp, Mo_calm_l78_fd]
    obtain ⟨many', now', dn', g', row', sa', e1, e2⟩ := Mo_rnd_loop (b := b) pp r w n 0 P false 0 many now dnI g row sa hP hn rfl (by omega) hR
    have e1 : Mo_calm_l78 pp (nI n) law b kinds wants outs (nI r) 0 0 many now dnI g row sa w = _ := e1
    have hok := rnd_ok (b := b) n 0 P false hP (by omega)
    rw [e1, calR_s, hn]
    by_cases c : (rnd b n 0 P false).2 = true
    · rw [if_pos c, if_pos c]
      exact Mo_calm_loop pp w d (r + 1) _ _ _ _ _ _ _ hok.1 (hok.2.trans hn) (by omega) e2
    · rw [if_neg c, if_neg c, Mo_calm_l62_eq]
      unfold Mo_calm_b62
      by_cases c2 : 40 ≤ nI (r + 1)
      · rw [if_pos c2, pu_ex]
        exact ⟨_, _, _, _, _, _, rfl, e2⟩
      · rw [if_neg c2, if_pos (nI_pos' (by omega)), pu_ex]
        exact ⟨_, _, _, _, _, _, rfl, e2⟩
theorem Mo_was_loop {n : Nat} (hn : n ≤ 7) (pp : Int32) (many now dnI : Int32) (g row sa : Nat → Int32) :
    ∀ (d i : Nat) (w : Nat → Int32), n = i + d → ∃ w', Mo_calm_l31 pp (nI n) law b kinds wants outs (nI i) many now dnI g row sa w = Mo_calm_l62 pp (nI n) law b kinds wants outs (-9) 0 many now dnI g row sa w' ∧ ∀ j, j < n → w' j = if i ≤ j then g j else w j
  | 0, i, w, hd => by
    rw [Mo_calm_l31_eq]
    unfold Mo_calm_b31
    rw [if_pos (nI_le (by omega) (by omega)), pu_ex]
    exact ⟨w, rfl, fun j hj => by rw [if_neg (by omega)]⟩
  | d + 1, i, w, hd => by
    rw [Mo_calm_l31_eq]
    unfold Mo_calm_b31
    simp only [lt]
    rw [if_neg (nI_ge (by omega) (by omega)), if_pos (ck_nI (by omega) (by omega)), if_pos (ck_nI (by omega) (by omega)), nI_clamp (by omega), nI_1, pu_jp, Mo_calm_l31_fd]
    obtain ⟨w', e1, e2⟩ := Mo_was_loop hn pp many now dnI g row sa d (i + 1) (upd w i (g i)) (by omega)
    refine ⟨w', e1, fun j hj => ?_⟩
    rw [e2 j hj, upd_eq]
    by_cases c : j = i
    · rw [if_neg (by omega), if_pos c, if_pos (by omega), c]
    · by_cases c2 : i ≤ j
      · rw [if_pos (by omega), if_pos c2]
      · rw [if_neg (by omega), if_neg c, if_neg c2]
theorem Mo_back_loop {n : Nat} (hn : n ≤ 7) (pp v : Int32) (many now dnI : Int32) (row sa w : Nat → Int32) :
    ∀ (d i : Nat) (g : Nat → Int32), n = i + d → ∃ g', Mo_calm_l150 pp (nI n) law b kinds wants outs v (nI i) many now dnI g row sa w = some (v, many, now, dnI, g', row, sa, w) ∧ ∀ j, j < n → g' j = if i ≤ j then w j else g j
  | 0, i, g, hd => by
    rw [Mo_calm_l150_eq]
    unfold Mo_calm_b150
    rw [if_pos (nI_le (by omega) (by omega)), pu_rt]
    exact ⟨g, rfl, fun j hj => by rw [if_neg (by omega)]⟩
  | d + 1, i, g, hd => by
    rw [Mo_calm_l150_eq]
    unfold Mo_calm_b150
    simp only [lt]
    rw [if_neg (nI_ge (by omega) (by omega)), if_pos (ck_nI (by omega) (by omega)), if_pos (ck_nI (by omega) (by omega)), nI_clamp (by omega), nI_1, pu_jp, Mo_calm_l150_fd]
    obtain ⟨g', e1, e2⟩ := Mo_back_loop hn pp v many now dnI row sa w d (i + 1) (upd g i (w i)) (by omega)
    refine ⟨g', e1, fun j hj => ?_⟩
    rw [e2 j hj, upd_eq]
    by_cases c : j = i
    · rw [if_neg (by omega), if_pos c, if_pos (by omega), c]
    · by_cases c2 : i ≤ j
      · rw [if_pos (by omega), if_pos c2]
      · rw [if_neg (by omega), if_neg c, if_neg c2]
end
theorem none_cases {n : Nat} (h : n ≤ 7) : (n = 0 ∧ Pl_isNone (nI n) = some 1 ∧ nI n = 0) ∨ (0 < n ∧ Pl_isNone (nI n) = some 0 ∧ ¬ nI n = 0) := by
  unfold Pl_isNone
  rcases Nat.eq_zero_or_pos n with c | c
  · refine Or.inl ⟨c, ?_, by rw [c]; rfl⟩
    rw [c]; rfl
  · have hz : ¬ nI n = 0 := nI_ne0 c (by omega)
    refine Or.inr ⟨c, ?_, hz⟩
    rw [if_neg hz]

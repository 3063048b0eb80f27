/-! ===== a bell moved ===== -/
theorem bitL_xor (a b : Int64) (m : Nat) : bitL (a ^^^ b) m = (bitL a m ^^ bitL b m) := by
  unfold bitL
  rw [Int64.toBitVec_xor, BitVec.getLsbD_xor]
theorem bitL_and (a b : Int64) (m : Nat) : bitL (a &&& b) m = (bitL a m && bitL b m) := by
  unfold bitL
  rw [Int64.toBitVec_and, BitVec.getLsbD_and]
theorem bitL_m1 : ∀ m, m < 64 → bitL (-1) m = true := by decide +kernel
def one1 (k : Nat) : Int64 := (1 : Int64) <<< ((nI k).toInt64 &&& 63)
def mvB (b : Int64) (k t : Nat) : Int64 := (b ^^^ one1 k) ^^^ one1 t
theorem mvB_ref {b : Int64} {k t : Nat} (hk : k < 64) (ht : t < 64) (h1 : bitL b k = true) (h2 : bitL b t = false) : (b &&& (one1 k ^^^ (-1))) ||| one1 t = mvB b k t := by
  apply bitL_ext
  intro m hm
  unfold mvB
  rw [bitL_or, bitL_and, bitL_xor, bitL_xor, bitL_xor, bitL_m1 m hm, show bitL (one1 k) m = decide (m = k) from bitL_one hk, show bitL (one1 t) m = decide (m = t) from bitL_one ht]
  by_cases c1 : m = k
  · subst c1
    by_cases c2 : m = t
    · subst c2; rw [h1] at h2; cases h2
    · simp [c2, h1]
  · by_cases c2 : m = t
    · subst c2; simp [c1, h2]
    · simp [c1, c2]
def tI (k j : Nat) : Int32 := nI k - nI 3 + nI j
theorem tI_0 (k : Nat) : nI k - 3 = tI k 0 := by
  unfold tI
  rw [nI_0, Int32.add_zero]
  rfl
theorem tI_s (k j : Nat) : tI k j + 1 = tI k (j + 1) := by
  unfold tI
  rw [Int32.add_assoc, nI_1]
theorem tI_int : ∀ k, k < 60 → ∀ j, j < 8 → (tI k j).toInt = (k : Int) - 3 + j := by decide +kernel
theorem tI_end {k j : Nat} (hk : k < 60) (hj : j < 8) : nI k + 3 < tI k j ↔ j = 7 := by
  rw [show (3 : Int32) = nI 3 from rfl, nI_add, i_lt, tI_int k hk j hj, nI_toInt (by omega)]
  omega
/-- one minute to which a bell is moved -/
def rgS (P : Pln) (b : Int64) (p k : Nat) (x : Int32) (z : Int32 × Nat) : Int32 × Nat :=
  if 0 ≤ x.toInt ∧ x.toInt < 60 ∧ bitL b x.toInt.toNat = false then (if SV P (mvB b k x.toInt.toNat) p < z.2 then (100 * nI k + x, SV P (mvB b k x.toInt.toNat) p) else z) else z
def rgQ (P : Pln) (b : Int64) (p k : Nat) : Nat → Nat → Int32 × Nat → Int32 × Nat
  | 0, _, z => z
  | d + 1, j, z => rgQ P b p k d (j + 1) (rgS P b p k (tI k j) z)
theorem rgQ_s (P : Pln) (b : Int64) (p k d j : Nat) (z : Int32 × Nat) : rgQ P b p k (d + 1) j z = rgQ P b p k d (j + 1) (rgS P b p k (tI k j) z) := rfl
theorem rgS_lt {P : Pln} (hP : pOK P) {b : Int64} {p k : Nat} (hp : p < pCnt P) {x : Int32} {z : Int32 × Nat} (hz : z.2 < 200) : (rgS P b p k x z).2 < 200 := by
  unfold rgS
  by_cases c : 0 ≤ x.toInt ∧ x.toInt < 60 ∧ bitL b x.toInt.toNat = false
  · rw [if_pos c]
    by_cases c2 : SV P (mvB b k x.toInt.toNat) p < z.2
    · rw [if_pos c2]
      dsimp only
      exact (SV_ge hP (mvB b k x.toInt.toNat) hp).2
    · rw [if_neg c2]; exact hz
  · rw [if_neg c]; exact hz
theorem rgQ_lt {P : Pln} (hP : pOK P) {b : Int64} {p k : Nat} (hp : p < pCnt P) : ∀ (d j : Nat) (z : Int32 × Nat), z.2 < 200 → (rgQ P b p k d j z).2 < 200
  | 0, _, _, h => h
  | d + 1, j, z, h => rgQ_lt hP hp d (j + 1) _ (rgS_lt hP hp h)
/-- what a minute is to both -/
theorem rg_cases (P : Pln) (b : Int64) (p k : Nat) (x : Int32) : (∃ t, t < 60 ∧ x = nI t ∧ bitL b t = false ∧ Tq_isMinute x = some 1 ∧ Mo_isMinute x = some 1 ∧ Tq_hasMinute b x = some 0 ∧ Mo_isBell b x = some 0 ∧ ∀ z, rgS P b p k x z = if SV P (mvB b k t) p < z.2 then (100 * nI k + x, SV P (mvB b k t) p) else z) ∨ ((∀ z, rgS P b p k x z = z) ∧ Tq_isMinute x = some 1 ∧ Mo_isMinute x = some 1 ∧ Tq_hasMinute b x = some 1 ∧ Mo_isBell b x = some 1) ∨ ((∀ z, rgS P b p k x z = z) ∧ Tq_isMinute x = some 0 ∧ Mo_isMinute x = some 0) := by
  have z60 : (60 : Int32).toInt = 60 := by decide
  have z00 : (0 : Int32).toInt = 0 := by decide
  rcases min_cases x with ⟨t, ht, e, h1, h2⟩ | ⟨h1, h2⟩
  · have hx : x.toInt = (t : Int) := by rw [e, nI_toInt (by omega)]
    have hn : x.toInt.toNat = t := by omega
    by_cases c : bitL b t = true
    · refine Or.inr (Or.inl ⟨fun z => ?_, h1, h2, ?_, ?_⟩)
      · unfold rgS
        rw [hn, if_neg (fun q => by have := q.2.2; rw [c] at this; cases this)]
      · rw [e, hasMin_ok (by omega), if_pos ⟨ht, c⟩]
      · rw [e, isBell_ok (by omega), if_pos ⟨ht, c⟩]
    · refine Or.inl ⟨t, ht, e, eq_false_of_ne_true c, h1, h2, ?_, ?_, fun z => ?_⟩
      · rw [e, hasMin_ok (by omega), if_neg (fun q => c q.2)]
      · rw [e, isBell_ok (by omega), if_neg (fun q => c q.2)]
      · unfold rgS
        rw [hn, if_pos ⟨by omega, by omega, eq_false_of_ne_true c⟩]
  · refine Or.inr (Or.inr ⟨fun z => ?_, h1, h2⟩)
    unfold rgS
    rw [if_neg]
    intro q
    unfold Tq_isMinute at h1
    rw [if_neg (fun w => by have := i_lt.mp w; omega), if_neg (fun w => by have := i_le.mp w; omega)] at h1
    exact absurd h1 (by decide)
section
variable {P : Pln} {law cnt : Int32} {kinds comes wants outs : Nat → Int32} {b : Int64} {p k : Nat}
theorem Ri_tm_loop (hP : pOK P) (hp : p < pCnt P) (hk : k < 60) (hR : RP P law cnt kinds comes wants outs) :
    ∀ (d j : Nat) (z1 : Int32) (z2 : Nat) (sI : Int32) (t1 t2 : Int32) (t3 : Int64) (t4 t5 : Int32) (row sa : Nat → Int32) (gb : Int64), 7 = j + d → sI = nI z2 → z2 < 200 →
      ∃ o, Ri_tryMoves_l5 (nI p) (nI k) law cnt kinds comes wants outs b (tI k j) z1 sI t1 t2 t3 t4 t5 row sa gb = some o ∧ o.1 = (rgQ P b p k d j (z1, z2)).1 ∧ o.2.1 = nI (rgQ P b p k d j (z1, z2)).2
  | 0, j, z1, z2, sI, t1, t2, t3, t4, t5, row, sa, gb, hd, hs, hz => by
    subst hs
    rw [Ri_tryMoves_l5_eq]
    unfold Ri_tryMoves_b5
    rw [if_pos ((tI_end hk (by omega)).mpr (by omega)), pu_rt]
    exact ⟨_, rfl, rfl, rfl⟩
  | d + 1, j, z1, z2, sI, t1, t2, t3, t4, t5, row, sa, gb, hd, hs, hz => by
    subst hs
    rw [Ri_tryMoves_l5_eq]
    unfold Ri_tryMoves_b5
    simp only [lt]
    rw [if_neg (fun q => by have := (tI_end hk (by omega)).mp q; omega), tI_s]
    rcases rg_cases P b p k (tI k j) with ⟨t, ht, e, hbt, h1, h2, h3, h4, h5⟩ | ⟨h5, h1, h2, h3, h4⟩ | ⟨h5, h1, h2⟩
    · have hv := (SV_ge hP (mvB b k t) hp).2
      obtain ⟨o, e1, e2⟩ := Co_servedOf_ok (b := mvB b k t) hP hR hp t1 t2 t3 t4 t5 row sa
      have e1 : Co_servedOf (nI p) law cnt ((b ^^^ ((1 : Int64) <<< ((nI k).toInt64 &&& 63))) ^^^ ((1 : Int64) <<< ((tI k j).toInt64 &&& 63))) kinds comes wants outs t1 t2 t3 t4 t5 row sa = some o := by rw [e]; exact e1
      rw [h1]
      simp only [Option.bind_some, n10, if_false]
      rw [h3]
      simp only [Option.bind_some, if_true]
      rw [e1]
      simp only [Option.bind_some, pu_if, pu_jp, sg_l, Ri_tryMoves_l5_fd]
      rw [e2, rgQ_s, h5]
      by_cases c : SV P (mvB b k t) p < z2
      · rw [if_pos (nI_lt c (by omega)), if_pos c]
        exact Ri_tm_loop hP hp hk hR d (j + 1) _ _ _ _ _ _ _ _ _ _ _ (by omega) rfl hv
      · rw [if_neg (nI_nlt (by omega) (by omega)), if_neg c]
        exact Ri_tm_loop hP hp hk hR d (j + 1) _ _ _ _ _ _ _ _ _ _ _ (by omega) rfl hz
    · rw [h1]
      simp only [Option.bind_some, n10, if_false]
      rw [h3]
      simp only [Option.bind_some, n10, if_false, pu_jp, sg_l, Ri_tryMoves_l5_fd]
      rw [rgQ_s, h5]
      exact Ri_tm_loop hP hp hk hR d (j + 1) _ _ _ _ _ _ _ _ _ _ _ (by omega) rfl hz
    · rw [h1]
      simp only [Option.bind_some, if_true, pu_jp, sg_l, Ri_tryMoves_l5_fd]
      rw [rgQ_s, h5]
      exact Ri_tm_loop hP hp hk hR d (j + 1) _ _ _ _ _ _ _ _ _ _ _ (by omega) rfl hz
end
/-- all bells -/
def rbQ (P : Pln) (b : Int64) (p : Nat) : Nat → Nat → Int32 × Nat → Int32 × Nat
  | 0, _, z => z
  | d + 1, k, z => rbQ P b p d (k + 1) (if bitL b k = true then rgQ P b p k 7 0 z else z)
theorem rbQ_s (P : Pln) (b : Int64) (p d k : Nat) (z : Int32 × Nat) : rbQ P b p (d + 1) k z = rbQ P b p d (k + 1) (if bitL b k = true then rgQ P b p k 7 0 z else z) := rfl
section
variable {P : Pln} {law cnt : Int32} {kinds comes wants outs : Nat → Int32} {b : Int64} {p : Nat}
theorem Ri_fm_loop (hP : pOK P) (hp : p < pCnt P) (u1 u2 : Int32) (u4 u5 u6 u7 : Nat → Int32) (hR : RP P law cnt kinds comes wants outs) :
    ∀ (d k : Nat) (z1 : Int32) (z2 : Nat) (sI : Int32) (t1 t2 : Int32) (t3 : Int64) (t4 t5 : Int32) (row sa : Nat → Int32) (gb : Int64), 60 = k + d → sI = nI z2 → z2 < 200 →
      ∃ o, Ri_findMove_l29 (nI p) u1 u2 b u4 u5 u6 u7 (nI k) z1 sI t1 t2 t3 t4 t5 row sa law cnt gb kinds comes wants outs = some o ∧ o.1 = (rbQ P b p d k (z1, z2)).1 ∧ o.2.1 = nI (rbQ P b p d k (z1, z2)).2
  | 0, k, z1, z2, sI, t1, t2, t3, t4, t5, row, sa, gb, hd, hs, hz => by
    subst hs
    rw [Ri_findMove_l29_eq]
    unfold Ri_findMove_b29
    rw [show (60 : Int32) = nI 60 from rfl, if_pos (nI_le (by omega) (by omega)), pu_rt]
    exact ⟨_, rfl, rfl, rfl⟩
  | d + 1, k, z1, z2, sI, t1, t2, t3, t4, t5, row, sa, gb, hd, hs, hz => by
    subst hs
    rw [Ri_findMove_l29_eq]
    unfold Ri_findMove_b29
    simp only [lt]
    rw [show (60 : Int32) = nI 60 from rfl, if_neg (nI_ge (by omega) (by omega)), hasMin_ok (by omega), nI_1, rbQ_s]
    simp only [Option.bind_some]
    by_cases c : bitL b k = true
    · rw [if_pos (show k < 60 ∧ bitL b k = true from ⟨by omega, c⟩), if_neg one_ne0, if_pos c]
      obtain ⟨o, e1, e2, e3⟩ := Ri_tm_loop (b := b) hP hp (show k < 60 by omega) hR 7 0 z1 z2 _ t1 t2 t3 t4 t5 row sa gb (by omega) rfl hz
      have hq := rgQ_lt hP (b := b) (k := k) hp 7 0 (z1, z2) hz
      unfold Ri_tryMoves
      simp only [lt]
      rw [tI_0, e1]
      simp only [Option.bind_some, pu_jp, sg_l, Ri_findMove_l29_fd]
      generalize rgQ P b p k 7 0 (z1, z2) = zz at e2 e3 hq ⊢
      obtain ⟨w1, w2⟩ := zz
      rw [e2]
      exact Ri_fm_loop hP hp u1 u2 u4 u5 u6 u7 hR d (k + 1) w1 w2 _ _ _ _ _ _ _ _ _ (by omega) e3 hq
    · rw [if_neg (show ¬ (k < 60 ∧ bitL b k = true) from fun q => c q.2), if_pos rfl, if_neg c]
      simp only [pu_jp, sg_l, Ri_findMove_l29_fd]
      exact Ri_fm_loop hP hp u1 u2 u4 u5 u6 u7 hR d (k + 1) z1 z2 _ _ _ _ _ _ _ _ _ (by omega) rfl hz
theorem Mo_rg_loop (hP : pOK P) (hp : p < pCnt P) {k : Nat} (hk : k < 60) (hbk : bitL b k = true) (hR : RP P law cnt kinds comes wants outs) (what : Int32) :
    ∀ (d j : Nat) (z1 : Int32) (z2 : Nat) (sI : Int32) (many now dnI : Int32) (row sa : Nat → Int32), 7 = j + d → sI = nI z2 → z2 < 200 →
      ∃ many' now' dn' row' sa', Mo_ringer_l53 (nI p) what cnt law b kinds comes wants outs z1 sI (nI k) (tI k j) many now dnI row sa = Mo_ringer_l40 (nI p) what cnt law b kinds comes wants outs (rgQ P b p k d j (z1, z2)).1 (nI (rgQ P b p k d j (z1, z2)).2) (nI (k + 1)) many' now' dn' row' sa'
  | 0, j, z1, z2, sI, many, now, dnI, row, sa, hd, hs, hz => by
    subst hs
    rw [Mo_ringer_l53_eq]
    unfold Mo_ringer_b53
    simp only [lt]
    rw [if_pos ((tI_end hk (by omega)).mpr (by omega)), nI_1, pu_jp, Mo_ringer_l40_fd]
    exact ⟨_, _, _, _, _, rfl⟩
  | d + 1, j, z1, z2, sI, many, now, dnI, row, sa, hd, hs, hz => by
    subst hs
    rw [Mo_ringer_l53_eq]
    unfold Mo_ringer_b53
    simp only [lt]
    rw [if_neg (fun q => by have := (tI_end hk (by omega)).mp q; omega), tI_s, isBell_ok (m := k) (by omega), if_pos (show k < 60 ∧ bitL b k = true from ⟨hk, hbk⟩)]
    simp only [Option.bind_some, n10, if_false]
    rcases rg_cases P b p k (tI k j) with ⟨t, ht, e, hbt, h1, h2, h3, h4, h5⟩ | ⟨h5, h1, h2, h3, h4⟩ | ⟨h5, h1, h2⟩
    · have hv := (SV_ge hP (mvB b k t) hp).2
      obtain ⟨o, e1, e2⟩ := Mo_servedBy_ok (b := mvB b k t) hP hR hp many now dnI row sa
      have e1 : Mo_servedBy (nI p) ((b &&& (((1 : Int64) <<< ((nI k).toInt64 &&& 63)) ^^^ (-1))) ||| ((1 : Int64) <<< ((tI k j).toInt64 &&& 63))) cnt law kinds comes wants outs many now dnI row sa = some o := by
        rw [e]
        have := mvB_ref (b := b) (k := k) (t := t) (by omega) (by omega) hbk hbt
        rw [← this] at e1
        exact e1
      rw [h2]
      simp only [Option.bind_some, n10, if_false]
      rw [h4]
      simp only [Option.bind_some, if_true]
      rw [e1]
      simp only [Option.bind_some, pu_if, pu_jp, sg_l, Mo_ringer_l53_fd]
      rw [e2, rgQ_s, h5]
      by_cases c : SV P (mvB b k t) p < z2
      · rw [if_neg (nI_ge c (by omega)), if_pos c]
        exact Mo_rg_loop hP hp hk hbk hR what d (j + 1) _ _ _ _ _ _ _ _ (by omega) rfl hv
      · rw [if_pos (nI_le (by omega) (by omega)), if_neg c]
        exact Mo_rg_loop hP hp hk hbk hR what d (j + 1) _ _ _ _ _ _ _ _ (by omega) rfl hz
    · rw [h2]
      simp only [Option.bind_some, n10, if_false]
      rw [h4]
      simp only [Option.bind_some, n10, if_false, pu_jp, sg_l, Mo_ringer_l53_fd]
      rw [rgQ_s, h5]
      exact Mo_rg_loop hP hp hk hbk hR what d (j + 1) _ _ _ _ _ _ _ _ (by omega) rfl hz
    · rw [h2]
      simp only [Option.bind_some, if_true, pu_jp, sg_l, Mo_ringer_l53_fd]
      rw [rgQ_s, h5]
      exact Mo_rg_loop hP hp hk hbk hR what d (j + 1) _ _ _ _ _ _ _ _ (by omega) rfl hz
theorem Mo_rn_loop {k : Nat} (hk : k < 60) (hbk : ¬ bitL b k = true) (what pp z1 sI : Int32) (many now dnI : Int32) (row sa : Nat → Int32) :
    ∀ (d j : Nat), 7 = j + d → Mo_ringer_l53 pp what cnt law b kinds comes wants outs z1 sI (nI k) (tI k j) many now dnI row sa = Mo_ringer_l40 pp what cnt law b kinds comes wants outs z1 sI (nI (k + 1)) many now dnI row sa
  | 0, j, hd => by
    rw [Mo_ringer_l53_eq]
    unfold Mo_ringer_b53
    simp only [lt]
    rw [if_pos ((tI_end hk (by omega)).mpr (by omega)), nI_1, pu_jp, Mo_ringer_l40_fd]
  | d + 1, j, hd => by
    rw [Mo_ringer_l53_eq]
    unfold Mo_ringer_b53
    simp only [lt]
    rw [if_neg (fun q => by have := (tI_end hk (by omega)).mp q; omega), tI_s, isBell_ok (m := k) (by omega), if_neg (show ¬ (k < 60 ∧ bitL b k = true) from fun q => hbk q.2)]
    simp only [Option.bind_some, if_true, pu_jp, sg_l, Mo_ringer_l53_fd]
    exact Mo_rn_loop hk hbk what pp z1 sI many now dnI row sa d (j + 1) (by omega)
theorem Mo_rb_loop (hP : pOK P) (hp : p < pCnt P) (hR : RP P law cnt kinds comes wants outs) (what : Int32) :
    ∀ (d k : Nat) (z1 : Int32) (z2 : Nat) (sI : Int32) (many now dnI : Int32) (row sa : Nat → Int32), 60 = k + d → sI = nI z2 → z2 < 200 →
      ∃ many' now' dn' row' sa', Mo_ringer_l40 (nI p) what cnt law b kinds comes wants outs z1 sI (nI k) many now dnI row sa = Mo_ringer_j151 (nI p) what cnt law b kinds comes wants outs (rbQ P b p d k (z1, z2)).1 (nI (rbQ P b p d k (z1, z2)).2) many' now' dn' row' sa'
  | 0, k, z1, z2, sI, many, now, dnI, row, sa, hd, hs, hz => by
    subst hs
    rw [Mo_ringer_l40_eq]
    unfold Mo_ringer_b40
    rw [show (60 : Int32) = nI 60 from rfl, if_pos (nI_le (by omega) (by omega)), pu_ex]
    exact ⟨_, _, _, _, _, rfl⟩
  | d + 1, k, z1, z2, sI, many, now, dnI, row, sa, hd, hs, hz => by
    subst hs
    rw [Mo_ringer_l40_eq]
    unfold Mo_ringer_b40
    simp only [lt]
    rw [show (60 : Int32) = nI 60 from rfl, if_neg (nI_ge (by omega) (by omega)), tI_0, pu_jp, Mo_ringer_l53_fd, rbQ_s]
    by_cases c : bitL b k = true
    · obtain ⟨many', now', dn', row', sa', e⟩ := Mo_rg_loop hP hp (show k < 60 by omega) c hR what 7 0 z1 z2 _ many now dnI row sa (by omega) rfl hz
      have hq := rgQ_lt hP (b := b) (k := k) hp 7 0 (z1, z2) hz
      rw [e, if_pos c]
      generalize rgQ P b p k 7 0 (z1, z2) = zz at hq ⊢
      obtain ⟨w1, w2⟩ := zz
      exact Mo_rb_loop hP hp hR what d (k + 1) w1 w2 _ _ _ _ _ _ (by omega) rfl hq
    · rw [Mo_rn_loop (show k < 60 by omega) c what _ z1 _ many now dnI row sa 7 0 (by omega), if_neg c]
      exact Mo_rb_loop hP hp hR what d (k + 1) z1 z2 _ _ _ _ _ _ (by omega) rfl hz
end
theorem T_ringer {P : Pln} {law cnt mlaw mcnt : Int32} {kinds comes wants outs mkinds mcomes mwants mouts : Nat → Int32} {b : Int64} (hP : pOK P) (hR : RP P law cnt kinds comes wants outs) (hM : RP P mlaw mcnt mkinds mcomes mwants mouts) (x what : Int32) (s1 s2 t1 t2 : Int32) (t3 : Int64) (t4 t5 : Int32) (row sa : Nat → Int32) (gl gc0 : Int32) (gb : Int64) (gk gc gw go : Nat → Int32) (many now dnI : Int32) (row2 sa2 : Nat → Int32) :
    ∃ o o', Tq_ringer x what law cnt b kinds comes wants outs s1 s2 t1 t2 t3 t4 t5 row sa gl gc0 gb gk gc gw go = some o ∧ Mo_ringer x what mcnt mlaw b mkinds mcomes mwants mouts many now dnI row2 sa2 = some o' ∧ o.1 = o'.1 := by
  have hc := hP.2.1
  obtain ⟨rfl, rfl, -⟩ := id hR
  obtain ⟨rfl, rfl, -⟩ := id hM
  unfold Tq_ringer Mo_ringer
  rcases per_cases x hc with ⟨p, hp, e, h1, h2⟩ | ⟨h1, h2⟩
  · rw [h1, h2]
    simp only [Option.bind_some, n10, if_false, if_true]
    subst e
    have hN := (SV_ge hP b hp).2
    have main : ∃ o o', Tq_ringer_j25 (nI p) what (nI (pLaw P)) (nI (pCnt P)) b kinds comes wants outs s1 s2 t1 t2 t3 t4 t5 row sa gl gc0 gb gk gc gw go = some o ∧ ((Mo_servedBy (nI p) b (nI (pCnt P)) (nI (pLaw P)) mkinds mcomes mwants mouts many now dnI row2 sa2).bind fun y7 => Mo_ringer_l40 (nI p) what (nI (pCnt P)) (nI (pLaw P)) b mkinds mcomes mwants mouts (-9) y7.1 0 y7.2.1 y7.2.2.1 y7.2.2.2.1 y7.2.2.2.2.1 y7.2.2.2.2.2) = some o' ∧ o.1 = o'.1 := by
      obtain ⟨k', c', w', r', g1, g2⟩ := takeFrom_ok (nI (pLaw P)) (nI (pCnt P)) b kinds comes wants outs gl gc0 gb gk gc gw go
      have hR' : RP P (nI (pLaw P)) (nI (pCnt P)) k' c' w' r' := RP_same hP hR g2
      obtain ⟨oa, ea, ea1⟩ := Co_servedOf_ok (b := b) hP hR hp t1 t2 t3 t4 t5 row sa
      obtain ⟨ob, eb, eb1⟩ := Mo_servedBy_ok (b := b) hP hM hp many now dnI row2 sa2
      obtain ⟨o, e1, e2, e3⟩ := Ri_fm_loop (b := b) hP hp (nI (pLaw P)) (nI (pCnt P)) kinds comes wants outs hR' 60 0 (-9) (SV P b p) oa.1 oa.2.1 oa.2.2.1 oa.2.2.2.1 oa.2.2.2.2.1 oa.2.2.2.2.2.1 oa.2.2.2.2.2.2.1 oa.2.2.2.2.2.2.2 b (by omega) ea1 hN
      obtain ⟨many', now', dn', row', sa', e4⟩ := Mo_rb_loop (b := b) hP hp hM what 60 0 (-9) (SV P b p) ob.1 ob.2.1 ob.2.2.1 ob.2.2.2.1 ob.2.2.2.2.1 ob.2.2.2.2.2 (by omega) eb1 hN
      generalize rbQ P b p 60 0 (-9, SV P b p) = zz at e2 e3 e4
      unfold Tq_ringer_j25 Ri_findMove
      rw [g1]
      simp only [Option.bind_some]
      rw [ea]
      simp only [Option.bind_some]
      have e1 : Ri_findMove_l29 (nI p) (nI (pLaw P)) (nI (pCnt P)) b kinds comes wants outs 0 (-9) oa.1 oa.2.1 oa.2.2.1 oa.2.2.2.1 oa.2.2.2.2.1 oa.2.2.2.2.2.1 oa.2.2.2.2.2.2.1 oa.2.2.2.2.2.2.2 (nI (pLaw P)) (nI (pCnt P)) b k' c' w' r' = some o := e1
      rw [e1, eb]
      simp only [Option.bind_some]
      have e4 : Mo_ringer_l40 (nI p) what (nI (pCnt P)) (nI (pLaw P)) b mkinds mcomes mwants mouts (-9) ob.1 0 ob.2.1 ob.2.2.1 ob.2.2.2.1 ob.2.2.2.2.1 ob.2.2.2.2.2 = _ := e4
      rw [e4]
      unfold Mo_ringer_j151
      by_cases w0 : what = 0
      · rw [if_pos w0, if_pos w0]
        refine ⟨_, _, rfl, rfl, ?_⟩
        dsimp only
        exact e2
      · rw [if_neg w0, if_neg w0]
        refine ⟨_, _, rfl, rfl, ?_⟩
        dsimp only
        exact e3
    rcases what_cases what with ⟨w, h3⟩ | ⟨w, h3⟩ | ⟨w0, w1, h3⟩
    · rw [h3, if_pos w]
      simp only [Option.bind_some, n10, if_false]
      exact main
    · have w0 : ¬ what = 0 := fun z => one_ne0 (w.symm.trans z)
      rw [h3, if_neg w0, if_pos w]
      simp only [Option.bind_some, n10, if_false]
      exact main
    · rw [h3, if_neg w0, if_neg w1]
      simp only [Option.bind_some, if_true]
      exact ⟨_, _, rfl, rfl, rfl⟩
  · rw [h1, h2]
    simp only [Option.bind_some, n10, if_false, if_true]
    exact ⟨_, _, rfl, rfl, rfl⟩

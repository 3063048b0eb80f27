/-! ===== the calls on sheets ===== -/
theorem oth_ok {x : Int32} {l m : Nat} (hl : l ≤ 2) (hm : m ≤ 2) : Sh_isOfAnother (nI m) (nI l) = some (if l = m then 0 else 1) := by
  unfold Sh_isOfAnother
  rw [if_neg (m1_nlt (by omega))]
  by_cases c : l = m
  · rw [if_pos (by rw [c]), if_pos c]
  · rw [if_neg (fun z => c ((nI_eq (by omega) (by omega)).mp z)), if_neg c]
theorem oth_m1 (x : Int32) : Sh_isOfAnother x (-1) = some 0 := by
  unfold Sh_isOfAnother
  rw [if_pos rfl]
theorem not_ok {l : Nat} (hl : l ≤ 2) : Sh_hasNothing (nI l) = some 0 := by
  unfold Sh_hasNothing
  rw [if_neg (m1_nlt (by omega))]
theorem not_m1 : Sh_hasNothing (-1) = some 1 := by
  unfold Sh_hasNothing
  rw [if_pos rfl]
theorem m1_lt0 : (-1 : Int32) < 0 := by decide
theorem m1_nge0 : ¬ (0 : Int32) ≤ -1 := by decide
theorem nI_ge0 {n : Nat} (h : n ≤ 60) : (0 : Int32) ≤ nI n := nI_le (Nat.zero_le n) (by omega)
theorem Sh_bg_loop (l n x y : Int32) : ∀ (d i : Nat) (f : Nat → Int32), 60 = i + d → ∃ f', Sh_begin_l23 l n (nI i) x y f = some (x, y, f') ∧ ∀ j, j < 60 → f' j = if i ≤ j then 0 else f j
  | 0, i, f, hd => by
    refine ⟨f, ?_, fun j hj => by rw [if_neg (by omega)]⟩
    rw [Sh_begin_l23_eq]
    unfold Sh_begin_b23
    rw [show (60 : Int32) = nI 60 from rfl, if_pos (nI_le (by omega) (by omega)), pu_rt]
  | d + 1, i, f, hd => by
    obtain ⟨f', e1, e2⟩ := Sh_bg_loop l n x y d (i + 1) (upd f i 0) (by omega)
    refine ⟨f', ?_, fun j hj => ?_⟩
    · rw [Sh_begin_l23_eq]
      unfold Sh_begin_b23
      simp only [lt]
      rw [show (60 : Int32) = nI 60 from rfl, if_neg (nI_ge (by omega) (by omega)), if_pos (ck_nI (by omega) (by omega)), nI_clamp (by omega), nI_1, pu_jp, Sh_begin_l23_fd]
      exact e1
    · rw [e2 j hj, upd_eq]
      by_cases z : j = i
      · rw [if_neg (by omega), if_pos z, if_pos (by omega)]
      · rw [if_neg z]
        by_cases z2 : i + 1 ≤ j
        · rw [if_pos z2, if_pos (by omega)]
        · rw [if_neg z2, if_neg (by omega)]
theorem ix_ok {k i : Nat} (hk : k < 4) (hi : i ≤ 60) : (60 * nI k) + nI i = nI (60 * k + i) := by
  rw [show (60 : Int32) = nI 60 from rfl, pk_mul, nI_add]
theorem Mo_sh_loop {k : Nat} (hk : k < 4) (l f : Int32) {n : Nat} (hn : n ≤ 60) (ms ml : Nat → Int32) : ∀ (d i : Nat) (h : Nat → Int32), n = i + d → ∃ h', Mo_sheet_l65 (nI k) l (nI n) (nI i) f ms ml h = some (1, 0, ms, ml, h') ∧ ∀ j, h' j = if 60 * k + i ≤ j ∧ j < 60 * k + n then 0 else h j
  | 0, i, h, hd => by
    refine ⟨h, ?_, fun j => by rw [if_neg (by omega)]⟩
    rw [Mo_sheet_l65_eq]
    unfold Mo_sheet_b65 Mo_refused
    rw [if_pos (nI_le (by omega) (by omega)), Option.bind_some, pu_rt]
  | d + 1, i, h, hd => by
    obtain ⟨h', e1, e2⟩ := Mo_sh_loop hk l f hn ms ml d (i + 1) (upd h (60 * k + i) 0) (by omega)
    refine ⟨h', ?_, fun j => ?_⟩
    · rw [Mo_sheet_l65_eq]
      unfold Mo_sheet_b65
      simp only [lt]
      rw [if_neg (nI_ge (by omega) (by omega)), ix_ok hk (by omega), if_pos (ck_nI (by omega) (by omega)), nI_clamp (by omega), nI_1, pu_jp, Mo_sheet_l65_fd]
      exact e1
    · rw [e2 j, upd_eq]
      by_cases z : j = 60 * k + i
      · rw [if_neg (by omega), if_pos z, if_pos (by omega)]
      · rw [if_neg z]
        by_cases z2 : 60 * k + (i + 1) ≤ j ∧ j < 60 * k + n
        · rw [if_pos z2, if_pos (by omega)]
        · rw [if_neg z2, if_neg (by omega)]
section
variable {la sz : Nat → Int32} {ce : Nat → Nat → Int32} {ms ml mh : Nat → Int32}
theorem T_sheet (hS : SHR la sz ce ms ml mh) (x y z f f' : Int32) :
    ∃ o o', Tq_sheet x y z f la sz ce = some o ∧ Mo_sheet x y z f' ms ml mh = some o' ∧ o.1 = o'.1 ∧ o.2.1 = o'.2.1 ∧ SHR o.2.2.1 o.2.2.2.1 o.2.2.2.2 o'.2.2.1 o'.2.2.2.1 o'.2.2.2.2 := by
  unfold Tq_sheet Mo_sheet Tq_faultless Tq_faulted Mo_refused Mo_failed
  rcases sh_cases x with ⟨k, hk, ex, h1, h2⟩ | ⟨h1, h2⟩
  · rw [h1, h2]
    simp only [Option.bind_some, n10, if_false, if_true]
    rcases la_cases y with ⟨l, hl, ey, h3, h4⟩ | ⟨h3, h4⟩
    · rw [h3, h4]
      simp only [Option.bind_some, n10, if_false]
      by_cases c1 : z ≤ 60
      · rw [if_pos c1, if_pos c1]
        by_cases c2 : 0 ≤ z
        · rw [if_pos c2, if_pos c2]
          obtain ⟨n, hn, ez⟩ : ∃ n, n ≤ 60 ∧ z = nI n := by
            rw [i_le] at c1 c2
            have m1 : (60 : Int32).toInt = 60 := by decide
            have m0 : (0 : Int32).toInt = 0 := by decide
            refine ⟨z.toInt.toNat, by omega, Int32.toInt_inj.mp ?_⟩
            rw [nI_toInt (by omega)]
            omega
          subst ex ey ez
          have hq : (nI k).toNatClampNeg = k := nI_clamp (by omega)
          have hck : ck (nI k) 4 = true := ck_nI hk (by omega)
          obtain ⟨c', e1, e2⟩ := Sh_bg_loop (nI l) (nI n) (nI l) (nI n) 60 0 (ce k) (by omega)
          obtain ⟨h', e3, e4⟩ := Mo_sh_loop hk (nI l) f' hn (upd ms k (nI n)) (upd ml k (nI l)) n 0 mh (by omega)
          have e1 : Sh_begin_l23 (nI l) (nI n) 0 (nI l) (nI n) (ce k) = some (nI l, nI n, c') := e1
          have e3 : Mo_sheet_l65 (nI k) (nI l) (nI n) 0 f' (upd ms k (nI n)) (upd ml k (nI l)) mh = _ := e3
          unfold Sh_begin
          simp only [hck, if_true, hq, lt]
          rw [if_neg (nI_pos (by omega)), show (60 : Int32) = nI 60 from rfl, if_pos (nI_le hn (by omega)), e1, e3]
          simp only [Option.bind_some]
          refine ⟨_, _, rfl, rfl, rfl, rfl, fun j hj => ?_⟩
          dsimp only
          rw [upv, upv, upv, upd_eq, upd_eq]
          by_cases c3 : j = k
          · rw [if_pos c3, if_pos c3, if_pos c3, if_pos c3, if_pos c3]
            refine Or.inr ⟨l, n, hl, hn, rfl, rfl, rfl, rfl, fun i hi => ?_⟩
            rw [e2 i (by omega), e4, if_pos (Nat.zero_le i), if_pos (by omega)]
          · rw [if_neg c3, if_neg c3, if_neg c3, if_neg c3, if_neg c3]
            rcases hS j hj with q | ⟨l', n', q1, q2, q3, q4, q5, q6, q7⟩
            · exact Or.inl q
            · refine Or.inr ⟨l', n', q1, q2, q3, q4, q5, q6, fun i hi => ?_⟩
              rw [e4, if_neg (by omega)]
              exact q7 i hi
        · rw [if_neg c2, if_neg c2]
          exact ⟨_, _, rfl, rfl, rfl, rfl, hS⟩
      · rw [if_neg c1, if_neg c1]
        exact ⟨_, _, rfl, rfl, rfl, rfl, hS⟩
    · rw [h3, h4]
      simp only [Option.bind_some, if_true]
      exact ⟨_, _, rfl, rfl, rfl, rfl, hS⟩
  · rw [h1, h2]
    simp only [Option.bind_some, n10, if_false, if_true]
    exact ⟨_, _, rfl, rfl, rfl, rfl, hS⟩
theorem T_lose (hS : SHR la sz ce ms ml mh) (x : Int32) :
    ∃ o o', Tq_lose x la sz = some o ∧ Mo_lose x ms = some o' ∧ o.1 = o'.1 ∧ SHR o.2.1 o.2.2 ce o'.2 ml mh := by
  unfold Tq_lose Mo_lose Sh_drop
  rcases sh_cases x with ⟨k, hk, ex, h1, h2⟩ | ⟨h1, h2⟩
  · rw [h1, h2, ex]
    have hq : (nI k).toNatClampNeg = k := nI_clamp (by omega)
    have hck : ck (nI k) 4 = true := ck_nI hk (by omega)
    simp only [Option.bind_some, n10, if_false, if_true, hck, hq, lt]
    have away : ∀ v w, v = -1 → w = 0 → SHR (va_up la k v) (va_up sz k w) ce (upd ms k (-1)) ml mh := by
      intro v w hv hw j hj
      rw [upv, upv, upd_eq]
      by_cases c3 : j = k
      · rw [if_pos c3, if_pos c3, if_pos c3]
        exact Or.inl ⟨hv, hw, rfl⟩
      · rw [if_neg c3, if_neg c3, if_neg c3]
        exact hS j hj
    rcases hS k hk with ⟨q1, q2, q3⟩ | ⟨l', n', q1, q2, q3, q4, q5, q6, q7⟩
    · rw [q1, q3, not_m1, Option.bind_some, if_neg one_ne0, if_neg m1_nge0]
      refine ⟨_, _, rfl, rfl, rfl, ?_⟩
      dsimp only
      have e1 : va_up la k (-1) = la := by
        funext j
        rw [upv]
        by_cases c3 : j = k
        · rw [if_pos c3, c3, q1]
        · rw [if_neg c3]
      have e2 : va_up sz k 0 = sz := by
        funext j
        rw [upv]
        by_cases c3 : j = k
        · rw [if_pos c3, c3, q2]
        · rw [if_neg c3]
      have := away (-1) 0 rfl rfl
      rw [e1, e2] at this
      exact this
    · rw [q3, q5, not_ok q1, Option.bind_some, if_pos rfl, if_pos (nI_ge0 q2)]
      exact ⟨_, _, rfl, rfl, rfl, away _ _ rfl rfl⟩
  · rw [h1, h2]
    simp only [Option.bind_some, n10, if_false, if_true]
    exact ⟨_, _, rfl, rfl, rfl, hS⟩
/-- one cell written on both sides -/
theorem SHR_set (hS : SHR la sz ce ms ml mh) {k a : Nat} (hk : k < 4) (ha : a < 60) (v : Int32) : SHR la sz (va_up ce k (upd (ce k) a v)) ms ml (upd mh (60 * k + a) v) := by
  intro j hj
  rcases hS j hj with q | ⟨l', n', q1, q2, q3, q4, q5, q6, q7⟩
  · exact Or.inl q
  · refine Or.inr ⟨l', n', q1, q2, q3, q4, q5, q6, fun i hi => ?_⟩
    rw [upv, upd_eq]
    by_cases c3 : j = k
    · rw [if_pos c3, upd_eq]
      by_cases c4 : i = a
      · rw [if_pos c4, if_pos (by omega)]
      · rw [if_neg c4, if_neg (by omega), ← c3]; exact q7 i hi
    · rw [if_neg c3, if_neg (by omega)]; exact q7 i hi
theorem T_put (hS : SHR la sz ce ms ml mh) (x y v f f' : Int32) :
    ∃ o o', Tq_put x y v la sz f ce = some o ∧ Mo_put x y v ms ml f' mh = some o' ∧ o.1 = o'.1 ∧ o.2.1 = o'.2.1 ∧ SHR la sz o.2.2 ms ml o'.2.2 := by
  unfold Tq_put Mo_put Tq_faultless Tq_faulted Mo_refused Mo_failed Mo_noCell
  rcases sh_cases x with ⟨k, hk, ex, h1, h2⟩ | ⟨h1, h2⟩
  · rw [h1, h2, ex]
    have hq : (nI k).toNatClampNeg = k := nI_clamp (by omega)
    have hck : ck (nI k) 4 = true := ck_nI hk (by omega)
    simp only [Option.bind_some, n10, if_false, if_true, hck, hq, lt]
    rcases hS k hk with ⟨q1, q2, q3⟩ | ⟨l, n, q1, q2, q3, q4, q5, q6, q7⟩
    · rw [q1, q3, not_m1, Option.bind_some, if_neg one_ne0, if_neg m1_nge0, Option.bind_some, if_neg (show ¬ (1 : Int32) ≤ 0 by decide), Option.bind_some]
      exact ⟨_, _, rfl, rfl, rfl, rfl, hS⟩
    · rw [q3, q5, not_ok q1, Option.bind_some, if_pos rfl, if_pos (nI_ge0 q2), q4]
      rcases cl_cases y q2 with ⟨a, ha, ey, h3, h4⟩ | ⟨h3, h4⟩
      · rw [h3, h4]
        simp only [Option.bind_some, n10, if_false]
        have hc1 : ck (nI (60 * k + a)) 240 = true := ck_nI (by omega) (by omega)
        have hc2 : ck (nI a) 60 = true := ck_nI (by omega) (by omega)
        have hq1 : (nI (60 * k + a)).toNatClampNeg = 60 * k + a := nI_clamp (by omega)
        have hq2 : (nI a).toNatClampNeg = a := nI_clamp (by omega)
        rw [if_pos (show (0 : Int32) ≤ 0 by decide), ey, ix_ok hk (by omega)]
        unfold Sh_write Sh_cut
        rw [if_neg (nI_pos (show a < 2 ^ 31 by omega)), if_pos (nI_lt ha (by omega)), q6]
        simp only [hc1, hc2, hq1, hq2, if_true]
        by_cases c0 : nI l = 0
        · simp only [if_pos c0, Option.bind_some]
          exact ⟨_, _, rfl, rfl, rfl, rfl, SHR_set hS hk (by omega) _⟩
        · simp only [if_neg c0]
          by_cases c1 : nI l = 1
          · simp only [if_pos c1, Option.bind_some]
            exact ⟨_, _, rfl, rfl, rfl, rfl, SHR_set hS hk (by omega) _⟩
          · simp only [if_neg c1, Option.bind_some]
            exact ⟨_, _, rfl, rfl, rfl, rfl, SHR_set hS hk (by omega) _⟩
      · rw [h3, h4]
        simp only [Option.bind_some, if_true]
        rw [if_neg (show ¬ (3 : Int32) ≤ 0 by decide)]
        exact ⟨_, _, rfl, rfl, rfl, rfl, hS⟩
  · rw [h1, h2]
    simp only [Option.bind_some, n10, if_false, if_true]
    exact ⟨_, _, rfl, rfl, rfl, rfl, hS⟩
theorem T_cell (hS : SHR la sz ce ms ml mh) (x y v f f' : Int32) :
    ∃ o o', Tq_cell x y v la sz ce f = some o ∧ Mo_cell x y v ms ml mh f' = some o' ∧ o.1 = o'.1 ∧ o.2 = o'.2 := by
  unfold Tq_cell Mo_cell Mo_cell_j53 Tq_faultless Tq_lostBy Mo_failedLong Mo_lost Mo_noCell
  rcases sh_cases x with ⟨k, hk, ex, h1, h2⟩ | ⟨h1, h2⟩
  · rw [h1, h2, ex]
    have hq : (nI k).toNatClampNeg = k := nI_clamp (by omega)
    have hck : ck (nI k) 4 = true := ck_nI hk (by omega)
    simp only [Option.bind_some, n10, if_false, if_true, hck, hq, lt]
    rcases la_cases v with ⟨m, hm, ev, h5, h6⟩ | ⟨h5, h6⟩
    · rw [h5, h6, ev]
      simp only [Option.bind_some, n10, if_false]
      rcases hS k hk with ⟨q1, q2, q3⟩ | ⟨l, n, q1, q2, q3, q4, q5, q6, q7⟩
      · rw [q1, q3, oth_m1, not_m1, if_pos m1_lt0, if_neg m1_nge0]
        simp only [Option.bind_some, n10, if_false, if_true]
        rw [if_neg (show ¬ (1 : Int32) ≤ 0 by decide)]
        exact ⟨_, _, rfl, rfl, rfl, rfl⟩
      · rw [q3, q5, oth_ok (x := v) q1 hm, not_ok q1, if_neg (nI_pos (by omega)), q6, q4, if_pos (nI_ge0 q2)]
        by_cases c0 : l = m
        · rw [if_pos c0, if_pos (by rw [c0])]
          rcases cl_cases y q2 with ⟨a, ha, ey, h3, h4⟩ | ⟨h3, h4⟩
          · rw [h3, h4]
            simp only [Option.bind_some, n10, if_false, if_true]
            unfold Sh_at
            rw [if_pos (show (0 : Int32) ≤ 0 by decide), ey, ix_ok hk (by omega), if_pos (ck_nI (show 60 * k + a < 240 by omega) (by omega)), nI_clamp (show 60 * k + a < 2 ^ 31 by omega), if_neg (nI_pos (by omega)), if_neg (nI_ge ha (by omega)), if_pos (ck_nI (show a < 60 by omega) (by omega)), nI_clamp (show a < 2 ^ 31 by omega), q7 a ha]
            exact ⟨_, _, rfl, rfl, rfl, rfl⟩
          · rw [h3, h4]
            simp only [Option.bind_some, if_true]
            rw [if_neg (show ¬ (3 : Int32) ≤ 0 by decide)]
            exact ⟨_, _, rfl, rfl, rfl, rfl⟩
        · rw [if_neg c0, if_neg (fun z => c0 ((nI_eq (by omega) (by omega)).mp z))]
          simp only [Option.bind_some, n10, if_false]
          exact ⟨_, _, rfl, rfl, rfl, rfl⟩
    · rw [h5, h6]
      simp only [Option.bind_some, if_true]
      exact ⟨_, _, rfl, rfl, rfl, rfl⟩
  · rw [h1, h2]
    simp only [Option.bind_some, n10, if_false, if_true]
    exact ⟨_, _, rfl, rfl, rfl, rfl⟩
/-! copying -/
theorem Mo_c1_loop {k a o b c : Nat} (hk : k < 4) (hac : a + c ≤ 60) (f : Int32) : ∀ (d i : Nat) (hd : Nat → Int32), c = i + d → ∃ hd', Mo_copy_l107 (nI k) (nI a) (nI o) (nI b) (nI c) ms ml (nI i) f mh hd = Mo_copy_l144 (nI k) (nI a) (nI o) (nI b) (nI c) ms ml (nI 0) f mh hd' ∧ ∀ j, hd' j = if i ≤ j ∧ j < c then mh (60 * k + a + j) else hd j
  | 0, i, hd, he => by
    refine ⟨hd, ?_, fun j => by rw [if_neg (by omega)]⟩
    rw [Mo_copy_l107_eq]
    unfold Mo_copy_b107
    rw [if_pos (nI_le (by omega) (by omega)), pu_ex]
    rfl
  | d + 1, i, hd, he => by
    obtain ⟨hd', e1, e2⟩ := Mo_c1_loop hk hac f d (i + 1) (upd hd i (mh (60 * k + a + i))) (by omega)
    refine ⟨hd', ?_, fun j => ?_⟩
    · rw [Mo_copy_l107_eq]
      unfold Mo_copy_b107
      simp only [lt]
      rw [if_neg (nI_ge (by omega) (by omega)), ix_ok hk (by omega), nI_add, if_pos (ck_nI (show 60 * k + a + i < 240 by omega) (by omega)), nI_clamp (show 60 * k + a + i < 2 ^ 31 by omega), if_pos (ck_nI (show i < 60 by omega) (by omega)), nI_clamp (show i < 2 ^ 31 by omega), nI_1, pu_jp, Mo_copy_l107_fd]
      exact e1
    · rw [e2 j, upd_eq]
      by_cases z : j = i
      · rw [if_neg (by omega), if_pos z, if_pos (by omega), z]
      · rw [if_neg z]
        by_cases z2 : i + 1 ≤ j ∧ j < c
        · rw [if_pos z2, if_pos (by omega)]
        · rw [if_neg z2, if_neg (by omega)]
theorem Mo_c2_loop {k a o b c : Nat} (ho : o < 4) (hbc : b + c ≤ 60) (f : Int32) (hd : Nat → Int32) : ∀ (d i : Nat) (h : Nat → Int32), c = i + d → ∃ h', Mo_copy_l144 (nI k) (nI a) (nI o) (nI b) (nI c) ms ml (nI i) f h hd = some (nI c, 0, h', hd) ∧ ∀ j, h' j = if 60 * o + b + i ≤ j ∧ j < 60 * o + b + c then hd (j - (60 * o + b)) else h j
  | 0, i, h, he => by
    refine ⟨h, ?_, fun j => by rw [if_neg (by omega)]⟩
    rw [Mo_copy_l144_eq]
    unfold Mo_copy_b144 Mo_refused
    rw [if_pos (nI_le (by omega) (by omega)), Option.bind_some, pu_rt]
  | d + 1, i, h, he => by
    obtain ⟨h', e1, e2⟩ := Mo_c2_loop (k := k) (a := a) ho hbc f hd d (i + 1) (upd h (60 * o + b + i) (hd i)) (by omega)
    refine ⟨h', ?_, fun j => ?_⟩
    · rw [Mo_copy_l144_eq]
      unfold Mo_copy_b144
      simp only [lt]
      rw [if_neg (nI_ge (by omega) (by omega)), if_pos (ck_nI (show i < 60 by omega) (by omega)), nI_clamp (show i < 2 ^ 31 by omega), ix_ok ho (by omega), nI_add, if_pos (ck_nI (show 60 * o + b + i < 240 by omega) (by omega)), nI_clamp (show 60 * o + b + i < 2 ^ 31 by omega), nI_1, pu_jp, Mo_copy_l144_fd]
      exact e1
    · rw [e2 j, upd_eq]
      by_cases z : j = 60 * o + b + i
      · rw [if_neg (by omega), if_pos z, if_pos (by omega), z, show 60 * o + b + i - (60 * o + b) = i by omega]
      · rw [if_neg z]
        by_cases z2 : 60 * o + b + (i + 1) ≤ j ∧ j < 60 * o + b + c
        · rw [if_pos z2, if_pos (by omega)]
        · rw [if_neg z2, if_neg (by omega)]
theorem T_copy (hS : SHR la sz ce ms ml mh) (x y v u w f f' : Int32) (hands : Nat → Int32) :
    ∃ o o', Tq_copy x y v u w la sz f ce = some o ∧ Mo_copy x y v u w ms ml f' mh hands = some o' ∧ o.1 = o'.1 ∧ o.2.1 = o'.2.1 ∧ SHR la sz o.2.2 ms ml o'.2.2.1 := by
  unfold Tq_copy Mo_copy Tq_faultless Tq_faulted Mo_refused Mo_failed
  rcases sh_cases x with ⟨k, hk, ex, h1, h2⟩ | ⟨h1, h2⟩
  · rw [h1, h2, ex]
    have hq : (nI k).toNatClampNeg = k := nI_clamp (by omega)
    have hck : ck (nI k) 4 = true := ck_nI hk (by omega)
    simp only [Option.bind_some, n10, if_false, if_true, hck, hq, lt]
    rcases sh_cases v with ⟨o, ho, ev, h3, h4⟩ | ⟨h3, h4⟩
    · rw [h3, h4, ev]
      have hq : (nI o).toNatClampNeg = o := nI_clamp (by omega)
      have hck : ck (nI o) 4 = true := ck_nI ho (by omega)
      simp only [Option.bind_some, n10, if_false, if_true, hck, hq]
      rcases hS k hk with ⟨q1, q2, q3⟩ | ⟨l, n, q1, q2, q3, q4, q5, q6, q7⟩
      · rw [q1, q3, not_m1, if_pos m1_lt0, Option.bind_some, if_neg one_ne0]
        exact ⟨_, _, rfl, rfl, rfl, rfl, hS⟩
      · rw [q3, q5, not_ok q1, if_neg (nI_pos (by omega)), Option.bind_some, if_pos rfl]
        rcases hS o ho with ⟨p1, p2, p3⟩ | ⟨l2, n2, p1, p2, p3, p4, p5, p6, p7⟩
        · rw [p1, p3, not_m1, if_neg m1_nge0, Option.bind_some, if_neg one_ne0]
          exact ⟨_, _, rfl, rfl, rfl, rfl, hS⟩
        · rw [p3, p5, not_ok p1, if_pos (nI_ge0 p2), Option.bind_some, if_pos rfl, oth_ok (x := v) p1 q1, Option.bind_some, q6, p6, q4, p4]
          by_cases c0 : l2 = l
          · rw [if_pos c0, if_pos rfl, if_pos (show nI l = nI l2 by rw [c0])]
            rcases st_cases y w q2 with ⟨a, c, hac, ey, ew, h5, h6⟩ | ⟨h5, h6⟩
            · rw [h5, h6, Option.bind_some, Option.bind_some, if_neg one_ne0, if_pos rfl]
              rcases st_cases u w p2 with ⟨b, c2, hbc, eu, ew2, h7, h8⟩ | ⟨h7, h8⟩
              · have ec : c2 = c := (nI_eq (by omega) (by omega)).mp (ew2.symm.trans ew)
                subst ec
                rw [h7, h8, Option.bind_some, Option.bind_some, if_neg one_ne0, if_pos rfl]
                obtain ⟨hd', e1, e2⟩ := Mo_c1_loop (ms := ms) (ml := ml) (mh := mh) (o := o) (b := b) hk (show a + c2 ≤ 60 by omega) f' c2 0 hands (by omega)
                obtain ⟨h', e3, e4⟩ := Mo_c2_loop (ms := ms) (ml := ml) (k := k) (a := a) ho (show b + c2 ≤ 60 by omega) f' hd' c2 0 mh (by omega)
                have e1 : Mo_copy_l107 (nI k) (nI a) (nI o) (nI b) (nI c2) ms ml 0 f' mh hands = _ := e1
                rw [ey, eu, ew, e1, e3, nI_clamp (show a < 2 ^ 31 by omega), nI_clamp (show b < 2 ^ 31 by omega), nI_clamp (show c2 < 2 ^ 31 by omega), if_pos (show ¬ nI a < 0 from nI_pos (by omega)), if_pos (show ¬ nI b < 0 from nI_pos (by omega)), if_pos (show ¬ nI c2 < 0 from nI_pos (by omega)), if_pos (show a + c2 ≤ 60 by omega), if_pos (show b + c2 ≤ 60 by omega)]
                refine ⟨_, _, rfl, rfl, rfl, rfl, fun j hj => ?_⟩
                dsimp only
                rcases hS j hj with q | ⟨l', n', r1, r2, r3, r4, r5, r6, r7⟩
                · exact Or.inl q
                · refine Or.inr ⟨l', n', r1, r2, r3, r4, r5, r6, fun i hi => ?_⟩
                  rw [upv, e4]
                  by_cases c3 : j = o
                  · rw [if_pos c3]
                    by_cases c4 : b ≤ i ∧ i < b + c2
                    · rw [pk_cpy_in c4.1 c4.2, if_pos (by omega), e2, if_pos (by omega), q7 _ (by omega), show 60 * k + (a + (i - b)) = 60 * k + a + (60 * j + i - (60 * o + b)) by omega]
                    · rw [pk_cpy_out (by omega), if_neg (by omega), ← c3]; exact r7 i hi
                  · rw [if_neg c3, if_neg (by omega)]; exact r7 i hi
              · rw [h7, h8, Option.bind_some, Option.bind_some, if_pos rfl, if_neg one_ne0]
                exact ⟨_, _, rfl, rfl, rfl, rfl, hS⟩
            · rw [h5, h6, Option.bind_some, Option.bind_some, if_pos rfl, if_neg one_ne0]
              exact ⟨_, _, rfl, rfl, rfl, rfl, hS⟩
          · rw [if_neg c0, if_neg one_ne0, if_neg (fun z => c0 ((nI_eq (by omega) (by omega)).mp z.symm))]
            exact ⟨_, _, rfl, rfl, rfl, rfl, hS⟩
    · rw [h3, h4]
      simp only [Option.bind_some, n10, if_false, if_true]
      exact ⟨_, _, rfl, rfl, rfl, rfl, hS⟩
  · rw [h1, h2]
    simp only [Option.bind_some, n10, if_false, if_true]
    exact ⟨_, _, rfl, rfl, rfl, rfl, hS⟩
end

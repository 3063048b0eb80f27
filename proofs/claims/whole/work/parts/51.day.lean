/-! ===== a day by a text ===== -/
def inR (a b : Nat) (c : Int32) : Bool := decide (¬ c < nI a) && decide (¬ nI b < c)
def gOn (p : Nat) (c : Int32) : Bool :=
  if p = 0 then decide (c = 100) else if p = 1 then inR 48 50 c else if p < 37 then
    (if (p - 2) % 5 = 0 then decide (c = 59) else if (p - 2) % 5 = 1 then (decide (c = 112) || decide (c = 109) || decide (c = 99)) else if (p - 2) % 5 = 2 then inR 48 53 c else if (p - 2) % 5 = 3 then inR 48 57 c else inR 49 57 c) else false
theorem goes_in (a b : Nat) (c : Int32) : (if c < nI a then some (0 : Int32) else if nI b < c then some 0 else some 1) = some (bI (inR a b c)) := by
  unfold inR
  by_cases c1 : c < nI a
  · rw [if_pos c1]; simp [c1]; rfl
  · rw [if_neg c1]
    by_cases c2 : nI b < c
    · rw [if_pos c2]; simp [c2]; rfl
    · rw [if_neg c2]; simp [c1, c2]; rfl
theorem goes_eq (c v : Int32) : (if c = v then some (1 : Int32) else some 0) = some (bI (decide (c = v))) := by
  by_cases h : c = v
  · rw [if_pos h, decide_eq_true h]; rfl
  · rw [if_neg h, decide_eq_false h]; rfl
theorem goes_ok {p : Nat} (hp : p < 60) (c : Int32) : Te_goesOn (nI p) c = some (bI (gOn p c)) := by
  unfold Te_goesOn gOn
  rw [show (48 : Int32) = nI 48 from rfl, show (49 : Int32) = nI 49 from rfl, show (50 : Int32) = nI 50 from rfl, show (53 : Int32) = nI 53 from rfl, show (57 : Int32) = nI 57 from rfl, goes_in, goes_in, goes_in, goes_in, goes_eq, goes_eq]
  by_cases h0 : p = 0
  · rw [if_pos (show nI p = 0 by rw [h0]; rfl), if_pos h0]
  · rw [if_neg (show ¬ nI p = 0 from fun z => h0 ((nI_eq (b := 0) (by omega) (by omega)).mp z)), if_neg h0]
    by_cases h1 : p = 1
    · rw [if_pos (show nI p = 1 by rw [h1]; rfl), if_pos h1]
    · rw [if_neg (show ¬ nI p = 1 from fun z => h1 ((nI_eq (b := 1) (by omega) (by omega)).mp z)), if_neg h1]
      by_cases h2 : p < 37
      · rw [show (37 : Int32) = nI 37 from rfl, if_pos (nI_lt h2 (by omega)), if_pos h2]
        simp only [lt]
        rw [show (2 : Int32) = nI 2 from rfl, pk_sub (show 2 ≤ p by omega), show (5 : Int32) = nI 5 from rfl, pk_rem (by omega) (by omega) (by omega)]
        have h5 : (p - 2) % 5 < 5 := Nat.mod_lt _ (by omega)
        generalize (p - 2) % 5 = r at h5
        have hr : r = 0 ∨ r = 1 ∨ r = 2 ∨ r = 3 ∨ r = 4 := by omega
        rcases hr with rfl | rfl | rfl | rfl | rfl
        · rw [if_pos rfl]; rfl
        · rw [if_neg (show ¬ nI 1 = 0 by decide), if_pos (show nI 1 = 1 from rfl)]
          show _ = some (bI (decide (c = 112) || decide (c = 109) || decide (c = 99)))
          by_cases z1 : c = 112
          · simp [z1]; rfl
          · rw [if_neg z1]
            by_cases z2 : c = 109
            · simp [z2]; rfl
            · rw [if_neg z2, decide_eq_false z1, decide_eq_false z2, Bool.false_or, Bool.false_or]
              exact goes_eq c 99
        · rw [if_neg (show ¬ nI 2 = 0 by decide), if_neg (show ¬ nI 2 = 1 by decide), if_pos rfl]; rfl
        · rw [if_neg (show ¬ nI 3 = 0 by decide), if_neg (show ¬ nI 3 = 1 by decide), if_neg (show ¬ nI 3 = nI 2 by decide), if_pos (show nI 3 = 3 from rfl)]; rfl
        · rw [if_neg (show ¬ nI 4 = 0 by decide), if_neg (show ¬ nI 4 = 1 by decide), if_neg (show ¬ nI 4 = nI 2 by decide), if_neg (show ¬ nI 4 = 3 by decide)]; rfl
      · rw [show (37 : Int32) = nI 37 from rfl, if_neg (nI_nlt (by omega) (by omega)), if_neg h2]; rfl
def dg (c : Int32) : Nat := (c - 48).toInt.toNat
theorem dg_n {d : Nat} (h : d < 10) : ∀ c, c = nI (48 + d) → dg c = d := by
  intro c e
  unfold dg
  rw [e, show (48 : Int32) = nI 48 from rfl, pk_sub (by omega), nI_toInt (by omega)]
  omega
theorem inR_n {a b : Nat} {c : Int32} (ha : a < 100) (hb : b < 100) (h : inR a b c = true) : ∃ v, a ≤ v ∧ v ≤ b ∧ c = nI v := by
  unfold inR at h
  rw [Bool.and_eq_true, decide_eq_true_iff, decide_eq_true_iff, i_lt, i_lt] at h
  obtain ⟨h1, h2⟩ := h
  rw [nI_toInt (by omega)] at h1 h2
  refine ⟨c.toInt.toNat, by omega, by omega, Int32.toInt_inj.mp ?_⟩
  rw [nI_toInt (by omega)]
  omega
theorem inR_y {a b v : Nat} (ha : a ≤ v) (hb : v ≤ b) (hv : b < 100) : inR a b (nI v) = true := by
  unfold inR
  rw [decide_eq_true (nI_nlt ha (by omega)), decide_eq_true (nI_nlt hb (by omega))]
  rfl
/-- a figure, or none -/
theorem fg_in (c : Int32) {lo hi : Nat} (hl : lo ≤ hi) (hh : hi < 10) : (∃ d, lo ≤ d ∧ d ≤ hi ∧ c = nI (48 + d) ∧ c - 48 = nI d ∧ inR (48 + lo) (48 + hi) c = true ∧ Mo_in (c - 48).toInt64 (nI lo).toInt64 (nI hi).toInt64 = some 1) ∨ (inR (48 + lo) (48 + hi) c = false ∧ Mo_in (c - 48).toInt64 (nI lo).toInt64 (nI hi).toInt64 = some 0) := by
  by_cases h : inR (48 + lo) (48 + hi) c = true
  · obtain ⟨v, h1, h2, h3⟩ := inR_n (by omega) (by omega) h
    have e : c - 48 = nI (v - 48) := by rw [h3, show (48 : Int32) = nI 48 from rfl, pk_sub (by omega)]
    refine Or.inl ⟨v - 48, by omega, by omega, by rw [h3, show 48 + (v - 48) = v by omega], e, h, ?_⟩
    rw [e]
    refine in_yes ?_ ?_
    · rw [l_lt, w_int, w_int, nI_toInt (by omega), nI_toInt (by omega)]; omega
    · rw [l_lt, w_int, w_int, nI_toInt (by omega), nI_toInt (by omega)]; omega
  · refine Or.inr ⟨eq_false_of_ne_true h, ?_⟩
    have el : (nI lo).toInt = lo := nI_toInt (by omega)
    have eh : (nI hi).toInt = hi := nI_toInt (by omega)
    by_cases c1 : (c - 48).toInt < lo
    · exact in_no1 (by rw [l_lt, w_int, w_int, el]; exact c1)
    · by_cases c2 : (hi : Int) < (c - 48).toInt
      · exact in_no2 (by rw [l_lt, w_int, w_int, eh]; exact c2)
      · refine absurd ?_ h
        have e : c - 48 = nI (c - 48).toInt.toNat := Int32.toInt_inj.mp (by rw [nI_toInt (by omega)]; omega)
        have e2 : c = nI ((c - 48).toInt.toNat + 48) := by
          rw [← nI_add, ← e]
          exact (Int32.sub_add_cancel c 48).symm
        rw [e2]
        exact inR_y (by omega) (by omega) (by omega)
def GG (cd : Nat → Int32) (q : Nat) : Prop := ∀ p, p < q → gOn p (cd p) = true
theorem GG_s {cd : Nat → Int32} {q : Nat} (h : GG cd q) (e : gOn q (cd q) = true) : GG cd (q + 1) := by
  intro p hp
  by_cases z : p = q
  · rw [z]; exact e
  · exact h p (by omega)
def pkC (c : Int32) : Nat := if c = 99 then 2 else if c = 109 then 1 else 0
def RK (cd : Nat → Int32) (m : Nat) (rk rc rw : Nat → Int32) : Prop := ∀ p, p < m → rk p = nI (pkC (cd (2 + 5 * p + 1))) ∧ rc p = nI (10 * dg (cd (2 + 5 * p + 2)) + dg (cd (2 + 5 * p + 3))) ∧ rw p = nI (dg (cd (2 + 5 * p + 4)))
theorem gOn_0 {m : Nat} (h : m < 7) (c : Int32) : gOn (2 + 5 * m) c = decide (c = 59) := by
  unfold gOn
  rw [if_neg (by omega), if_neg (by omega), if_pos (by omega), if_pos (by omega)]
theorem gOn_1 {m : Nat} (h : m < 7) (c : Int32) : gOn (2 + 5 * m + 1) c = (decide (c = 112) || decide (c = 109) || decide (c = 99)) := by
  unfold gOn
  rw [if_neg (by omega), if_neg (by omega), if_pos (by omega), if_neg (by omega), if_pos (by omega)]
theorem gOn_2 {m : Nat} (h : m < 7) (c : Int32) : gOn (2 + 5 * m + 2) c = inR 48 53 c := by
  unfold gOn
  rw [if_neg (by omega), if_neg (by omega), if_pos (by omega), if_neg (by omega), if_neg (by omega), if_pos (by omega)]
theorem gOn_3 {m : Nat} (h : m < 7) (c : Int32) : gOn (2 + 5 * m + 3) c = inR 48 57 c := by
  unfold gOn
  rw [if_neg (by omega), if_neg (by omega), if_pos (by omega), if_neg (by omega), if_neg (by omega), if_neg (by omega), if_pos (by omega)]
theorem gOn_4 {m : Nat} (h : m < 7) (c : Int32) : gOn (2 + 5 * m + 4) c = inR 49 57 c := by
  unfold gOn
  rw [if_neg (by omega), if_neg (by omega), if_pos (by omega), if_neg (by omega), if_neg (by omega), if_neg (by omega), if_neg (by omega)]
section
variable {mh : Nat → Int32} {k a n : Nat}
/-- the codes of the text -/
def cdF (mh : Nat → Int32) (k a : Nat) : Nat → Int32 := fun p => mh (60 * k + a + p)
theorem code_ok (hk : k < 4) (hn : a + n ≤ 60) {at_ : Nat} (ht : at_ ≤ 60) : Mo_codeAt (nI (60 * k + a)) (nI n) (nI at_) mh = some (if n ≤ at_ then -9 else cdF mh k a at_) := by
  unfold Mo_codeAt
  by_cases c : n ≤ at_
  · rw [if_pos (nI_le c (by omega)), if_pos c]
  · rw [if_neg (nI_ge (by omega) (by omega)), if_neg c, nI_add, if_pos (ck_nI (by omega) (by omega)), nI_clamp (by omega)]
    rfl
theorem fig_ok (hk : k < 4) (hn : a + n ≤ 60) {at_ : Nat} (ht : at_ ≤ 60) {lo hi : Nat} (hl : lo ≤ hi) (hh : hi < 10) {l h : Int32} (el : l = nI lo) (eh : h = nI hi) :
    (∃ d, lo ≤ d ∧ d ≤ hi ∧ at_ < n ∧ cdF mh k a at_ = nI (48 + d) ∧ inR (48 + lo) (48 + hi) (cdF mh k a at_) = true ∧ Mo_figure (nI (60 * k + a)) (nI n) l h mh (nI at_) = some (nI d, nI (at_ + 1))) ∨
    ((n ≤ at_ ∨ at_ < n ∧ inR (48 + lo) (48 + hi) (cdF mh k a at_) = false) ∧ Mo_figure (nI (60 * k + a)) (nI n) l h mh (nI at_) = some (-9, nI at_)) := by
  subst el eh
  unfold Mo_figure Mo_figure_j39
  rw [code_ok hk hn ht, Option.bind_some]
  simp only [lt]
  by_cases c : n ≤ at_
  · rw [if_pos c]
    rcases fg_in (-9) hl hh with ⟨d, h1, h2, h3, -⟩ | ⟨h1, h2⟩
    · exact absurd h3 (neg9 (by omega))
    · rw [h2, Option.bind_some, if_pos rfl, if_pos rfl, Int32.add_zero]
      exact Or.inr ⟨Or.inl c, rfl⟩
  · rw [if_neg c]
    rcases fg_in (cdF mh k a at_) hl hh with ⟨d, h1, h2, h3, h4, h5, h6⟩ | ⟨h1, h2⟩
    · rw [h6, Option.bind_some, if_neg one_ne0, if_neg one_ne0, h4, nI_1]
      exact Or.inl ⟨d, h1, h2, by omega, h3, h5, rfl⟩
    · rw [h2, Option.bind_some, if_pos rfl, if_pos rfl, Int32.add_zero]
      exact Or.inr ⟨Or.inr ⟨by omega, h1⟩, rfl⟩
/-- where the reading of a text stops -/
def StpT (cd : Nat → Int32) (n q : Nat) (lim : Nat) : Prop := GG cd q ∧ (q < n ∧ gOn q (cd q) = false ∨ q = n ∧ n < lim)
theorem m9lt : ¬ (0 : Int32) ≤ -9 := by decide
theorem Mo_r59 (hk : k < 4) (hn : a + n ≤ 60) {m : Nat} (hm : m < 7) (hb : 2 + 5 * m + 1 < n) (hG : GG (cdF mh k a) (2 + 5 * m + 2)) {c : Int32} (ec : c = cdF mh k a (2 + 5 * m + 1)) (hc : c = 112 ∨ c = 109 ∨ c = 99) {rk rc rw : Nat → Int32} (hr : RK (cdF mh k a) m rk rc rw) :
    ∃ o, Mo_readsOne_j59 (nI (60 * k + a)) (nI n) mh c (nI (2 + 5 * m + 1)) (nI m) rk rc rw = some o ∧
      ((2 + 5 * (m + 1) ≤ n ∧ GG (cdF mh k a) (2 + 5 * (m + 1)) ∧ o.1 = 1 ∧ o.2.1 = nI (2 + 5 * (m + 1)) ∧ o.2.2.1 = nI (m + 1) ∧ RK (cdF mh k a) (m + 1) o.2.2.2.1 o.2.2.2.2.1 o.2.2.2.2.2) ∨
       (∃ q, o.1 = 0 ∧ o.2.1 = nI q ∧ StpT (cdF mh k a) n q (2 + 5 * (m + 1)))) := by
  unfold Mo_readsOne_j59
  simp only [lt]
  rw [nI_1]
  have fail : ∀ (x4 : Int32) (q : Nat), StpT (cdF mh k a) n q (2 + 5 * (m + 1)) → ∃ o, Mo_readsOne_j98 (nI (60 * k + a)) (nI n) mh c x4 (-9) (nI q) (nI m) rk rc rw = some o ∧
      ((2 + 5 * (m + 1) ≤ n ∧ GG (cdF mh k a) (2 + 5 * (m + 1)) ∧ o.1 = 1 ∧ o.2.1 = nI (2 + 5 * (m + 1)) ∧ o.2.2.1 = nI (m + 1) ∧ RK (cdF mh k a) (m + 1) o.2.2.2.1 o.2.2.2.2.1 o.2.2.2.2.2) ∨
       (∃ q, o.1 = 0 ∧ o.2.1 = nI q ∧ StpT (cdF mh k a) n q (2 + 5 * (m + 1)))) := by
    intro x4 q hq
    unfold Mo_readsOne_j98 Mo_readsOne_j119
    rw [if_neg m9lt, if_neg m9lt]
    exact ⟨_, rfl, Or.inr ⟨q, rfl, rfl, hq⟩⟩
  rcases fig_ok (mh := mh) hk hn (at_ := 2 + 5 * m + 2) (by omega) (lo := 0) (hi := 5) (by omega) (by omega) (l := 0) (h := 5) rfl rfl with ⟨d1, u1, u2, u3, u4, u5, u6⟩ | ⟨u1, u2⟩
  · rw [u6, Option.bind_some]
    dsimp only
    rw [if_pos (nI_ge0 (by omega))]
    have G3 := GG_s hG (by rw [gOn_2 hm]; exact u5)
    rcases fig_ok (mh := mh) hk hn (at_ := 2 + 5 * m + 2 + 1) (by omega) (lo := 0) (hi := 9) (by omega) (by omega) (l := 0) (h := 9) rfl rfl with ⟨d2, v1, v2, v3, v4, v5, v6⟩ | ⟨v1, v2⟩
    · rw [v6, Option.bind_some]
      dsimp only
      have G4 := GG_s G3 (by rw [gOn_3 hm]; exact v5)
      unfold Mo_readsOne_j98
      rw [if_pos (nI_ge0 (by omega))]
      rcases fig_ok (mh := mh) hk hn (at_ := 2 + 5 * m + 2 + 1 + 1) (by omega) (lo := 1) (hi := 9) (by omega) (by omega) (l := 1) (h := 9) rfl rfl with ⟨d3, w1, w2, w3, w4, w5, w6⟩ | ⟨w1, w2⟩
      · rw [w6, Option.bind_some]
        dsimp only
        have G5 := GG_s G4 (by rw [gOn_4 hm]; exact w5)
        have RKn : ∀ s2, s2 = nI (pkC c) → RK (cdF mh k a) (m + 1) (upd rk m s2) (upd rc m (nI (10 * d1 + d2))) (upd rw m (nI d3)) := by
          intro s2 es p hp
          rw [upd_eq, upd_eq, upd_eq]
          by_cases z : p = m
          · rw [if_pos z, if_pos z, if_pos z, z, ← ec, dg_n (show d1 < 10 by omega) _ u4, dg_n (show d2 < 10 by omega) _ v4, dg_n (show d3 < 10 by omega) _ w4]
            exact ⟨es, rfl, rfl⟩
          · rw [if_neg z, if_neg z, if_neg z]
            exact hr p (by omega)
        have e10 : 10 * nI d1 + nI d2 = nI (10 * d1 + d2) := by
          rw [show (10 : Int32) = nI 10 from rfl, pk_mul, nI_add]
        have fine : ∀ s2, s2 = nI (pkC c) → ∃ o, Mo_readsOne_j157 (nI (60 * k + a)) (nI n) mh (nI d1) (nI d2) (nI d3) (nI m) s2 (nI (2 + 5 * m + 2 + 1 + 1 + 1)) (nI m) rk rc rw = some o ∧
            ((2 + 5 * (m + 1) ≤ n ∧ GG (cdF mh k a) (2 + 5 * (m + 1)) ∧ o.1 = 1 ∧ o.2.1 = nI (2 + 5 * (m + 1)) ∧ o.2.2.1 = nI (m + 1) ∧ RK (cdF mh k a) (m + 1) o.2.2.2.1 o.2.2.2.2.1 o.2.2.2.2.2) ∨
            (∃ q, o.1 = 0 ∧ o.2.1 = nI q ∧ StpT (cdF mh k a) n q (2 + 5 * (m + 1)))) := by
          intro s2 es
          unfold Mo_readsOne_j157
          simp only [lt]
          rw [if_pos (ck_nI (show m < 7 by omega) (by omega)), if_pos (ck_nI (show m < 7 by omega) (by omega)), if_pos (ck_nI (show m < 7 by omega) (by omega)), nI_clamp (show m < 2 ^ 31 by omega), e10, nI_1]
          exact ⟨_, rfl, Or.inl ⟨by omega, G5, rfl, rfl, rfl, RKn s2 es⟩⟩
        unfold Mo_readsOne_j119
        rw [if_pos (nI_ge0 (by omega))]
        rcases hc with z | z | z
        · rw [if_pos z]; exact fine 0 (by rw [z]; rfl)
        · rw [if_neg (show ¬ c = 112 by rw [z]; decide), if_pos z]; exact fine 1 (by rw [z]; rfl)
        · rw [if_neg (show ¬ c = 112 by rw [z]; decide), if_neg (show ¬ c = 109 by rw [z]; decide)]; exact fine 2 (by rw [z]; rfl)
      · rw [w2, Option.bind_some]
        dsimp only
        unfold Mo_readsOne_j119
        rw [if_neg m9lt]
        refine ⟨_, rfl, Or.inr ⟨2 + 5 * m + 2 + 1 + 1, rfl, rfl, G4, ?_⟩⟩
        rcases w1 with z | z
        · exact Or.inr ⟨by omega, by omega⟩
        · exact Or.inl ⟨z.1, by rw [show 2 + 5 * m + 2 + 1 + 1 = 2 + 5 * m + 4 from rfl, gOn_4 hm]; exact z.2⟩
    · rw [v2, Option.bind_some]
      dsimp only
      refine fail _ _ ⟨G3, ?_⟩
      rcases v1 with z | z
      · exact Or.inr ⟨by omega, by omega⟩
      · exact Or.inl ⟨z.1, by rw [show 2 + 5 * m + 2 + 1 = 2 + 5 * m + 3 from rfl, gOn_3 hm]; exact z.2⟩
  · rw [u2, Option.bind_some]
    dsimp only
    rw [if_neg m9lt]
    refine fail _ _ ⟨hG, ?_⟩
    rcases u1 with z | z
    · exact Or.inr ⟨by omega, by omega⟩
    · exact Or.inl ⟨z.1, by rw [gOn_2 hm]; exact z.2⟩
theorem Mo_r1 (hk : k < 4) (hn : a + n ≤ 60) {m : Nat} (hm : m ≤ 7) (hb : 2 + 5 * m ≤ n) (hG : GG (cdF mh k a) (2 + 5 * m)) {rk rc rw : Nat → Int32} (hr : RK (cdF mh k a) m rk rc rw) :
    ∃ o, Mo_readsOne (nI (60 * k + a)) (nI n) mh (nI (2 + 5 * m)) (nI m) rk rc rw = some o ∧
      ((m < 7 ∧ 2 + 5 * (m + 1) ≤ n ∧ GG (cdF mh k a) (2 + 5 * (m + 1)) ∧ o.1 = 1 ∧ o.2.1 = nI (2 + 5 * (m + 1)) ∧ o.2.2.1 = nI (m + 1) ∧ RK (cdF mh k a) (m + 1) o.2.2.2.1 o.2.2.2.2.1 o.2.2.2.2.2) ∨
       (∃ q, o.1 = 0 ∧ o.2.1 = nI q ∧ StpT (cdF mh k a) n q (2 + 5 * (m + 1)))) := by
  unfold Mo_readsOne
  by_cases h7 : m = 7
  · rw [if_pos (show nI m = 7 by rw [h7]; rfl)]
    refine ⟨_, rfl, Or.inr ⟨2 + 5 * m, rfl, rfl, hG, ?_⟩⟩
    by_cases z : 2 + 5 * m < n
    · refine Or.inl ⟨z, ?_⟩
      unfold gOn
      rw [if_neg (by omega), if_neg (by omega), if_neg (by omega)]
    · exact Or.inr ⟨by omega, by omega⟩
  · have h7 : m < 7 := by omega
    rw [if_neg (show ¬ nI m = 7 from fun z => by have := (nI_eq (a := m) (b := 7) (by omega) (by omega)).mp z; omega), code_ok hk hn (by omega), Option.bind_some]
    by_cases c0 : n ≤ 2 + 5 * m
    · rw [if_pos c0, if_neg (by decide)]
      exact ⟨_, rfl, Or.inr ⟨2 + 5 * m, rfl, rfl, hG, Or.inr ⟨by omega, by omega⟩⟩⟩
    · rw [if_neg c0]
      by_cases c1 : cdF mh k a (2 + 5 * m) = 59
      · rw [if_pos c1]
        simp only [lt]
        rw [nI_1, code_ok hk hn (by omega), Option.bind_some]
        have G1 := GG_s hG (by rw [gOn_0 h7, c1]; decide)
        by_cases c2 : n ≤ 2 + 5 * m + 1
        · rw [if_pos c2, if_neg (by decide), if_neg (by decide), if_neg (by decide)]
          exact ⟨_, rfl, Or.inr ⟨2 + 5 * m + 1, rfl, rfl, G1, Or.inr ⟨by omega, by omega⟩⟩⟩
        · rw [if_neg c2]
          have go : (cdF mh k a (2 + 5 * m + 1) = 112 ∨ cdF mh k a (2 + 5 * m + 1) = 109 ∨ cdF mh k a (2 + 5 * m + 1) = 99) → ∃ o, Mo_readsOne_j59 (nI (60 * k + a)) (nI n) mh (cdF mh k a (2 + 5 * m + 1)) (nI (2 + 5 * m + 1)) (nI m) rk rc rw = some o ∧
              ((m < 7 ∧ 2 + 5 * (m + 1) ≤ n ∧ GG (cdF mh k a) (2 + 5 * (m + 1)) ∧ o.1 = 1 ∧ o.2.1 = nI (2 + 5 * (m + 1)) ∧ o.2.2.1 = nI (m + 1) ∧ RK (cdF mh k a) (m + 1) o.2.2.2.1 o.2.2.2.2.1 o.2.2.2.2.2) ∨
              (∃ q, o.1 = 0 ∧ o.2.1 = nI q ∧ StpT (cdF mh k a) n q (2 + 5 * (m + 1)))) := by
            intro hc
            have G2 : GG (cdF mh k a) (2 + 5 * m + 2) := GG_s G1 (by
              rw [gOn_1 h7]
              rcases hc with z | z | z <;> rw [z] <;> decide)
            obtain ⟨o, e1, e2⟩ := Mo_r59 hk hn h7 (by omega) G2 rfl hc hr
            exact ⟨o, e1, e2.imp (fun z => ⟨h7, z⟩) id⟩
          by_cases z1 : cdF mh k a (2 + 5 * m + 1) = 112
          · rw [if_pos z1]; exact go (Or.inl z1)
          · rw [if_neg z1]
            by_cases z2 : cdF mh k a (2 + 5 * m + 1) = 109
            · rw [if_pos z2]; exact go (Or.inr (Or.inl z2))
            · rw [if_neg z2]
              by_cases z3 : cdF mh k a (2 + 5 * m + 1) = 99
              · rw [if_pos z3]; exact go (Or.inr (Or.inr z3))
              · rw [if_neg z3]
                refine ⟨_, rfl, Or.inr ⟨2 + 5 * m + 1, rfl, rfl, G1, Or.inl ⟨by omega, ?_⟩⟩⟩
                rw [gOn_1 h7, decide_eq_false z1, decide_eq_false z2, decide_eq_false z3]
                rfl
      · rw [if_neg c1]
        refine ⟨_, rfl, Or.inr ⟨2 + 5 * m, rfl, rfl, hG, Or.inl ⟨by omega, ?_⟩⟩⟩
        rw [gOn_0 h7, decide_eq_false c1]
/-- the text ends too soon -/
def Soon (n : Nat) : Prop := n ≤ 2 ∨ ¬ (n - 2) % 5 = 0
def Rdy (cd : Nat → Int32) (n : Nat) (lw : Int32) (o : Int32 × Int32 × Int32 × Int32 × (Nat → Int32) × (Nat → Int32) × (Nat → Int32)) : Prop :=
  (∃ M, n = 2 + 5 * M ∧ 1 ≤ M ∧ M ≤ 7 ∧ GG cd n ∧ o.1 = 1 ∧ o.2.2.1 = lw ∧ o.2.2.2.1 = nI M ∧ RK cd M o.2.2.2.2.1 o.2.2.2.2.2.1 o.2.2.2.2.2.2) ∨
  (∃ q, o.1 = 0 ∧ o.2.1 = nI q ∧ GG cd q ∧ (q < n ∧ gOn q (cd q) = false ∨ q = n ∧ Soon n))
theorem Mo_rd0 (fr nn at_ lw mm : Int32) (rk rc rw : Nat → Int32) : Mo_readsDay_l79 fr nn mh 0 at_ lw mm rk rc rw = some (0, at_, lw, mm, rk, rc, rw) := by
  rw [Mo_readsDay_l79_eq]
  unfold Mo_readsDay_b79
  rw [if_pos rfl, if_pos (show (0 : Int32) &&& 1 = 0 by decide), pu_rt]
theorem Mo_rd_loop (hk : k < 4) (hn : a + n ≤ 60) (lw : Int32) : ∀ (d m : Nat) (rk rc rw : Nat → Int32), 8 = m + d → m ≤ 7 → 2 + 5 * m ≤ n → GG (cdF mh k a) (2 + 5 * m) → RK (cdF mh k a) m rk rc rw →
    ∃ o, Mo_readsDay_l79 (nI (60 * k + a)) (nI n) mh 1 (nI (2 + 5 * m)) lw (nI m) rk rc rw = some o ∧ Rdy (cdF mh k a) n lw o
  | 0, m, rk, rc, rw, hd, hm, hb, hG, hr => by omega
  | d + 1, m, rk, rc, rw, hd, hm, hb, hG, hr => by
    rw [Mo_readsDay_l79_eq]
    unfold Mo_readsDay_b79
    rw [if_neg one_ne0]
    have go : (m < 1 ∨ 2 + 5 * m < n) → ∃ o, ((Mo_readsOne (nI (60 * k + a)) (nI n) mh (nI (2 + 5 * m)) (nI m) rk rc rw).bind fun y11 => some (Sum.inl (y11.1, y11.2.1, lw, y11.2.2.1, y11.2.2.2.1, y11.2.2.2.2.1, y11.2.2.2.2.2))).bind (sg (fin (Mo_readsDay_s79 (nI (60 * k + a)) (nI n) mh))) = some o ∧ Rdy (cdF mh k a) n lw o := by
      intro hgo
      obtain ⟨o, e1, e2⟩ := Mo_r1 hk hn hm hb hG hr
      rw [e1, Option.bind_some, pu_jp, Mo_readsDay_l79_fd]
      rcases e2 with ⟨z1, z2, z3, z4, z5, z6, z7⟩ | ⟨q, z1, z2, z3, z4⟩
      · rw [z4, z5, z6]
        exact Mo_rd_loop hk hn lw d (m + 1) _ _ _ (by omega) (by omega) z2 z3 z7
      · rw [z1, z2, Mo_rd0]
        refine ⟨_, rfl, Or.inr ⟨q, rfl, rfl, z3, ?_⟩⟩
        rcases z4 with z | z
        · exact Or.inl z
        · refine Or.inr ⟨z.1, ?_⟩
          unfold Soon
          omega
    by_cases c1 : m < 1
    · rw [if_pos (show nI m < 1 from nI_lt (b := 1) c1 (by omega))]
      exact go (Or.inl c1)
    · rw [if_neg (show ¬ nI m < 1 from nI_nlt (b := 1) (by omega) (by omega))]
      by_cases c2 : n ≤ 2 + 5 * m
      · rw [if_pos (nI_le c2 (by omega)), if_pos (show (1 : Int32) &&& 1 = 1 by decide), pu_rt]
        exact ⟨_, rfl, Or.inl ⟨m, by omega, by omega, hm, by rw [show n = 2 + 5 * m by omega]; exact hG, rfl, rfl, rfl, hr⟩⟩
      · rw [if_neg (nI_ge (by omega) (by omega))]
        exact go (Or.inr (by omega))
theorem Mo_readsDay_ok (hk : k < 4) (hn : a + n ≤ 60) (at_ lw mm : Int32) (rk rc rw : Nat → Int32) :
    ∃ o, Mo_readsDay (nI (60 * k + a)) (nI n) mh at_ lw mm rk rc rw = some o ∧ Rdy (cdF mh k a) n (nI (dg (cdF mh k a 1))) o := by
  unfold Mo_readsDay
  have e0 := code_ok (mh := mh) hk hn (at_ := 0) (by omega)
  have e0 : Mo_codeAt (nI (60 * k + a)) (nI n) 0 mh = _ := e0
  rw [e0, Option.bind_some]
  have G0 : GG (cdF mh k a) 0 := fun p hp => by omega
  have bad : (n ≤ 0 ∨ 0 < n ∧ gOn 0 (cdF mh k a 0) = false) → ∃ o, Mo_readsDay_j26 (nI (60 * k + a)) (nI n) mh 0 0 lw 0 rk rc rw = some o ∧ Rdy (cdF mh k a) n (nI (dg (cdF mh k a 1))) o := by
    intro h
    unfold Mo_readsDay_j26 Mo_readsDay_j41 Mo_readsDay_j63
    simp only [lt, if_true]
    rw [if_pos (show (-9 : Int32) < 0 by decide), Mo_rd0]
    refine ⟨_, rfl, Or.inr ⟨0, rfl, rfl, G0, ?_⟩⟩
    rcases h with h | h
    · exact Or.inr ⟨by omega, Or.inl (by omega)⟩
    · exact Or.inl h
  by_cases c : n ≤ 0
  · rw [if_pos c, if_neg (by decide)]
    exact bad (Or.inl c)
  · rw [if_neg c]
    by_cases c1 : cdF mh k a 0 = 100
    · rw [if_pos c1]
      have g0 : gOn 0 (cdF mh k a 0) = true := by
        rw [c1]; decide
      have G1 := GG_s G0 g0
      unfold Mo_readsDay_j26 Mo_readsDay_j41
      simp only [lt]
      rw [if_neg one_ne0, if_neg one_ne0, show (0 : Int32) + 1 = nI (0 + 1) from rfl]
      unfold Mo_readsDay_j63
      rcases fig_ok (mh := mh) hk hn (at_ := 0 + 1) (by omega) (lo := 0) (hi := 2) (by omega) (by omega) (l := 0) (h := 2) rfl rfl with ⟨d1, u1, u2, u3, u4, u5, u6⟩ | ⟨u1, u2⟩
      · rw [u6, Option.bind_some]
        dsimp only
        rw [if_neg (nI_pos (by omega))]
        have G2 := GG_s G1 u5
        have e := Mo_rd_loop (mh := mh) hk hn (nI d1) 8 0 rk rc rw (by omega) (by omega) (by omega) G2 (fun p hp => by omega)
        rw [show dg (cdF mh k a 1) = d1 from dg_n (by omega) _ u4]
        exact e
      · rw [u2, Option.bind_some]
        dsimp only
        rw [if_pos (show (-9 : Int32) < 0 by decide), Mo_rd0]
        refine ⟨_, rfl, Or.inr ⟨0 + 1, rfl, rfl, G1, ?_⟩⟩
        rcases u1 with z | z
        · exact Or.inr ⟨by omega, Or.inl (by omega)⟩
        · exact Or.inl ⟨z.1, z.2⟩
    · rw [if_neg c1]
      refine bad (Or.inr ⟨by omega, ?_⟩)
      show decide (cdF mh k a 0 = 100) = false
      exact decide_eq_false c1
end

/-! ===== the text, the class ===== -/
section
variable {cd cells : Nat → Int32} {a n s : Nat}
theorem at_ok (hs : s ≤ 60) (hc : ∀ p, p < n → cells (a + p) = cd p) (hn : a + n ≤ s) {p : Nat} (hp : p < n) {x : Int32} (e : x = nI (a + p)) : Sh_at x (nI s) cells = some (cd p) := by
  unfold Sh_at
  rw [e, if_neg (nI_pos (by omega)), if_neg (nI_ge (by omega) (by omega)), if_pos (ck_nI (by omega) (by omega)), nI_clamp (by omega), hc p hp]
theorem ff_go (hs : s ≤ 60) (hc : ∀ p, p < n → cells (a + p) = cd p) (hn : a + n ≤ s) {q : Nat} (hq : q ≤ n) (hG : GG cd q) : ∀ (e p : Nat), q = p + e → Te_firstFault_l2 (nI a) (nI n) (nI s) cells (nI p) = Te_firstFault_l2 (nI a) (nI n) (nI s) cells (nI q)
  | 0, p, he => by rw [show p = q by omega]
  | e + 1, p, he => by
    rw [Te_firstFault_l2_eq]
    unfold Te_firstFault_b2
    rw [if_neg (nI_ge (by omega) (by omega)), at_ok hs hc hn (show p < n by omega) (nI_add a p), Option.bind_some, goes_ok (by omega), Option.bind_some, hG p (by omega), if_neg (show ¬ bI true = 0 by decide)]
    simp only [lt]
    rw [nI_1, pu_jp, Te_firstFault_l2_fd]
    exact ff_go hs hc hn hq hG e (p + 1) (by omega)
theorem ff_bad (hs : s ≤ 60) (hc : ∀ p, p < n → cells (a + p) = cd p) (hn : a + n ≤ s) {q : Nat} (hq : q < n) (hG : GG cd q) (hb : gOn q (cd q) = false) : Te_firstFault (nI a) (nI n) (nI s) cells = some (nI q) := by
  unfold Te_firstFault
  have e := ff_go hs hc hn (Nat.le_of_lt hq) hG q 0 (by omega)
  have e : Te_firstFault_l2 (nI a) (nI n) (nI s) cells 0 = _ := e
  rw [e, Te_firstFault_l2_eq]
  unfold Te_firstFault_b2
  rw [if_neg (nI_ge (by omega) (by omega)), at_ok hs hc hn hq (nI_add a q), Option.bind_some, goes_ok (by omega), Option.bind_some, hb, if_pos (show bI false = 0 from rfl), pu_rt]
theorem ff_end (hs : s ≤ 60) (hc : ∀ p, p < n → cells (a + p) = cd p) (hn : a + n ≤ s) (hG : GG cd n) : Te_firstFault (nI a) (nI n) (nI s) cells = Te_firstFault_j29 (nI a) (nI n) (nI s) cells := by
  unfold Te_firstFault
  have e := ff_go hs hc hn (Nat.le_refl n) hG n 0 (by omega)
  have e : Te_firstFault_l2 (nI a) (nI n) (nI s) cells 0 = _ := e
  rw [e, Te_firstFault_l2_eq]
  unfold Te_firstFault_b2
  rw [if_pos (nI_le (Nat.le_refl n) (by omega)), pu_ex]
theorem j29_soon (hn : n ≤ 60) (h : Soon n) : Te_firstFault_j29 (nI a) (nI n) (nI s) cells = some (nI n) := by
  unfold Te_firstFault_j29
  by_cases c : n ≤ 2
  · rw [show (2 : Int32) = nI 2 from rfl, if_pos (nI_le c (by omega))]
  · rw [show (2 : Int32) = nI 2 from rfl, if_neg (nI_ge (by omega) (by omega)), pk_sub (by omega), show (5 : Int32) = nI 5 from rfl, pk_rem (by omega) (by omega) (by omega), if_neg ?_]
    intro z
    have := (nI_eq (b := 0) (by omega) (by omega)).mp z
    rcases h with h | h <;> omega
theorem j29_full {M : Nat} (hM : n = 2 + 5 * M) (h1 : 1 ≤ M) (hn : n ≤ 60) : Te_firstFault_j29 (nI a) (nI n) (nI s) cells = some (-9) := by
  unfold Te_firstFault_j29
  rw [show (2 : Int32) = nI 2 from rfl, if_neg (nI_ge (by omega) (by omega)), pk_sub (by omega), show (5 : Int32) = nI 5 from rfl, pk_rem (by omega) (by omega) (by omega), if_pos ?_]
  rw [show (n - 2) % 5 = 0 by omega]
  rfl
theorem kd_ok {c : Int32} : Te_kindOf c = some (nI (pkC c)) := by
  unfold Te_kindOf pkC
  by_cases z1 : c = 99
  · rw [if_pos z1, if_pos z1]; rfl
  · rw [if_neg z1, if_neg z1]
    by_cases z2 : c = 109
    · rw [if_pos z2, if_pos z2]; rfl
    · rw [if_neg z2, if_neg z2]; rfl
theorem gg_dig {M p : Nat} (hM : n = 2 + 5 * M) (h7 : M ≤ 7) (hG : GG cd n) (hp : p < M) :
    (∃ d, d ≤ 5 ∧ cd (2 + 5 * p + 2) = nI (48 + d)) ∧ (∃ d, d ≤ 9 ∧ cd (2 + 5 * p + 3) = nI (48 + d)) ∧ (∃ d, 1 ≤ d ∧ d ≤ 9 ∧ cd (2 + 5 * p + 4) = nI (48 + d)) := by
  have g2 := hG (2 + 5 * p + 2) (by omega)
  have g3 := hG (2 + 5 * p + 3) (by omega)
  have g4 := hG (2 + 5 * p + 4) (by omega)
  rw [gOn_2 (by omega)] at g2
  rw [gOn_3 (by omega)] at g3
  rw [gOn_4 (by omega)] at g4
  obtain ⟨v2, a2, b2, e2⟩ := inR_n (by omega) (by omega) g2
  obtain ⟨v3, a3, b3, e3⟩ := inR_n (by omega) (by omega) g3
  obtain ⟨v4, a4, b4, e4⟩ := inR_n (by omega) (by omega) g4
  refine ⟨⟨v2 - 48, by omega, ?_⟩, ⟨v3 - 48, by omega, ?_⟩, ⟨v4 - 48, by omega, by omega, ?_⟩⟩
  · rw [e2, show 48 + (v2 - 48) = v2 by omega]
  · rw [e3, show 48 + (v3 - 48) = v3 by omega]
  · rw [e4, show 48 + (v4 - 48) = v4 by omega]
theorem ri_loop (hs : s ≤ 60) (hc : ∀ p, p < n → cells (a + p) = cd p) (hn : a + n ≤ s) {M : Nat} (hM : n = 2 + 5 * M) (h7 : M ≤ 7) (hG : GG cd n) (lw : Int32) (b : Int64) : ∀ (d p : Nat) (kinds comes wants outs : Nat → Int32), M = p + d →
    ∃ k' c' w' r', Te_readInto_l36 (nI a) (nI n) (nI s) cells (nI p) lw (nI M) b kinds comes wants outs = some (lw, nI M, b, k', c', w', r') ∧
      ∀ j, j < M → (k' j = if p ≤ j then nI (pkC (cd (2 + 5 * j + 1))) else kinds j) ∧ (c' j = if p ≤ j then nI (10 * dg (cd (2 + 5 * j + 2)) + dg (cd (2 + 5 * j + 3))) else comes j) ∧ (w' j = if p ≤ j then nI (dg (cd (2 + 5 * j + 4))) else wants j) ∧ (r' j = if p ≤ j then -9 else outs j)
  | 0, p, kinds, comes, wants, outs, hd => by
    refine ⟨kinds, comes, wants, outs, ?_, fun j hj => ⟨by rw [if_neg (by omega)], by rw [if_neg (by omega)], by rw [if_neg (by omega)], by rw [if_neg (by omega)]⟩⟩
    rw [Te_readInto_l36_eq]
    unfold Te_readInto_b36
    rw [if_pos (nI_le (by omega) (by omega)), pu_rt]
  | d + 1, p, kinds, comes, wants, outs, hd => by
    obtain ⟨⟨d1, u1, u2⟩, ⟨d2, v1, v2⟩, ⟨d3, w0, w1, w2⟩⟩ := gg_dig (p := p) hM h7 hG (by omega)
    have x1 := dg_n (show d1 < 10 by omega) _ u2
    have x2 := dg_n (show d2 < 10 by omega) _ v2
    have x3 := dg_n (show d3 < 10 by omega) _ w2
    obtain ⟨k', c', w', r', e1, e2⟩ := ri_loop hs hc hn hM h7 hG lw b d (p + 1) (upd kinds p (nI (pkC (cd (2 + 5 * p + 1))))) (upd comes p (nI (10 * d1 + d2))) (upd wants p (nI d3)) (upd outs p (-9)) (by omega)
    refine ⟨k', c', w', r', ?_, fun j hj => ?_⟩
    · have ey : (nI a + 2) + (5 * nI p) = nI (a + 2 + 5 * p) := by
        rw [show (2 : Int32) = nI 2 from rfl, show (5 : Int32) = nI 5 from rfl, pk_mul, nI_add, nI_add]
      have s1 : Sh_at (nI (a + 2 + 5 * p) + 1) (nI s) cells = some (cd (2 + 5 * p + 1)) := at_ok hs hc hn (by omega) (by rw [nI_1, show a + 2 + 5 * p + 1 = a + (2 + 5 * p + 1) by omega])
      have s2 : Sh_at (nI (a + 2 + 5 * p) + 2) (nI s) cells = some (cd (2 + 5 * p + 2)) := at_ok hs hc hn (by omega) (by rw [show (2 : Int32) = nI 2 from rfl, nI_add, show a + 2 + 5 * p + 2 = a + (2 + 5 * p + 2) by omega])
      have s3 : Sh_at (nI (a + 2 + 5 * p) + 3) (nI s) cells = some (cd (2 + 5 * p + 3)) := at_ok hs hc hn (by omega) (by rw [show (3 : Int32) = nI 3 from rfl, nI_add, show a + 2 + 5 * p + 3 = a + (2 + 5 * p + 3) by omega])
      have s4 : Sh_at (nI (a + 2 + 5 * p) + 4) (nI s) cells = some (cd (2 + 5 * p + 4)) := at_ok hs hc hn (by omega) (by rw [show (4 : Int32) = nI 4 from rfl, nI_add, show a + 2 + 5 * p + 4 = a + (2 + 5 * p + 4) by omega])
      have e10 : ((10 * (cd (2 + 5 * p + 2) - 48)) + cd (2 + 5 * p + 3)) - 48 = nI (10 * d1 + d2) := by
        rw [u2, v2, show (48 : Int32) = nI 48 from rfl, pk_sub (by omega), show (10 : Int32) = nI 10 from rfl, pk_mul, nI_add, pk_sub (by omega)]
        congr 1
        omega
      have e4 : cd (2 + 5 * p + 4) - 48 = nI d3 := by
        rw [w2, show (48 : Int32) = nI 48 from rfl, pk_sub (by omega)]
        congr 1
        omega
      rw [Te_readInto_l36_eq]
      unfold Te_readInto_b36
      simp only [lt]
      rw [if_neg (nI_ge (by omega) (by omega)), ey, s1, Option.bind_some, kd_ok, Option.bind_some, if_pos (ck_nI (show p < 7 by omega) (by omega)), s2, Option.bind_some, s3, Option.bind_some, e10, if_pos (ck_nI (show p < 7 by omega) (by omega)), s4, Option.bind_some, e4, if_pos (ck_nI (show p < 7 by omega) (by omega)), if_pos (ck_nI (show p < 7 by omega) (by omega)), nI_clamp (show p < 2 ^ 31 by omega), nI_1, pu_jp, Te_readInto_l36_fd]
      exact e1
    · obtain ⟨q1, q2, q3, q4⟩ := e2 j hj
      rw [q1, q2, q3, q4, upd_eq, upd_eq, upd_eq, upd_eq]
      by_cases z : j = p
      · have n1 : ¬ p + 1 ≤ p := by omega
        rw [z]
        simp only [if_neg n1, if_true, if_pos (Nat.le_refl p), x1, x2, x3]
        exact ⟨trivial, trivial, trivial, trivial⟩
      · rw [if_neg z, if_neg z, if_neg z, if_neg z]
        by_cases z2 : p ≤ j
        · rw [if_pos (show p + 1 ≤ j by omega), if_pos (show p + 1 ≤ j by omega), if_pos (show p + 1 ≤ j by omega), if_pos (show p + 1 ≤ j by omega), if_pos z2, if_pos z2, if_pos z2, if_pos z2]
          exact ⟨rfl, rfl, rfl, rfl⟩
        · rw [if_neg (show ¬ p + 1 ≤ j by omega), if_neg (show ¬ p + 1 ≤ j by omega), if_neg (show ¬ p + 1 ≤ j by omega), if_neg (show ¬ p + 1 ≤ j by omega), if_neg z2, if_neg z2, if_neg z2, if_neg z2]
          exact ⟨rfl, rfl, rfl, rfl⟩
/-- the plan that a text tells -/
def tP (cd : Nat → Int32) (M : Nat) : Pln := (dg (cd 1), M, fun p => pkC (cd (2 + 5 * p + 1)), fun p => 10 * dg (cd (2 + 5 * p + 2)) + dg (cd (2 + 5 * p + 3)), fun p => dg (cd (2 + 5 * p + 4)), fun _ => none)
theorem tP_law {M : Nat} (hM : n = 2 + 5 * M) (hG : GG cd n) : ∃ d, d ≤ 2 ∧ cd 1 = nI (48 + d) := by
  have g1 := hG 1 (by omega)
  have g1 : inR 48 50 (cd 1) = true := g1
  obtain ⟨v, a1, b1, e1⟩ := inR_n (by omega) (by omega) g1
  exact ⟨v - 48, by omega, by rw [e1, show 48 + (v - 48) = v by omega]⟩
theorem tP_ok {M : Nat} (hM : n = 2 + 5 * M) (h7 : M ≤ 7) (hG : GG cd n) : pOK (tP cd M) := by
  obtain ⟨d, h1, h2⟩ := tP_law hM hG
  refine ⟨?_, h7, fun p hp => ?_⟩
  · show dg (cd 1) ≤ 2
    rw [dg_n (by omega) _ h2]
    exact h1
  · have hp : p < M := hp
    obtain ⟨⟨d1, u1, u2⟩, ⟨d2, v1, v2⟩, ⟨d3, w0, w1, w2⟩⟩ := gg_dig (p := p) hM h7 hG hp
    have x1 := dg_n (show d1 < 10 by omega) _ u2
    have x2 := dg_n (show d2 < 10 by omega) _ v2
    have x3 := dg_n (show d3 < 10 by omega) _ w2
    refine ⟨?_, ?_, ?_, ?_, fun m z => by cases z⟩
    · show pkC (cd (2 + 5 * p + 1)) ≤ 2
      unfold pkC
      by_cases z1 : cd (2 + 5 * p + 1) = 99
      · rw [if_pos z1]; omega
      · rw [if_neg z1]
        by_cases z2 : cd (2 + 5 * p + 1) = 109
        · rw [if_pos z2]; omega
        · rw [if_neg z2]; omega
    · show 10 * dg (cd (2 + 5 * p + 2)) + dg (cd (2 + 5 * p + 3)) < 60
      rw [x1, x2]; omega
    · show 1 ≤ dg (cd (2 + 5 * p + 4))
      rw [x3]; exact w0
    · show dg (cd (2 + 5 * p + 4)) ≤ 9
      rw [x3]; exact w1
theorem readInto_ok (hs : s ≤ 60) (hc : ∀ p, p < n → cells (a + p) = cd p) (hn : a + n ≤ s) {M : Nat} (hM : n = 2 + 5 * M) (h7 : M ≤ 7) (hG : GG cd n) (l0 c0 : Int32) (b0 : Int64) (kinds comes wants outs : Nat → Int32) :
    ∃ k' c' w' r', Te_readInto (nI a) (nI n) (nI s) cells l0 c0 b0 kinds comes wants outs = some (nI (dg (cd 1)), nI M, 0, k', c', w', r') ∧ RP (tP cd M) (nI (dg (cd 1))) (nI M) k' c' w' r' := by
  obtain ⟨d, h1, h2⟩ := tP_law hM hG
  obtain ⟨k', c', w', r', e1, e2⟩ := ri_loop hs hc hn hM h7 hG (nI (dg (cd 1))) 0 M 0 kinds comes wants outs (by omega)
  have e1 : Te_readInto_l36 (nI a) (nI n) (nI s) cells 0 (nI (dg (cd 1))) (nI M) 0 kinds comes wants outs = _ := e1
  refine ⟨k', c', w', r', ?_, rfl, rfl, fun j hj => ?_, fun j hj => ?_, fun j hj => ?_, fun j hj => ?_⟩
  · unfold Te_readInto
    have s1 : Sh_at (nI a + 1) (nI s) cells = some (cd 1) := at_ok hs hc hn (by omega) (nI_1 a)
    have e48 : cd 1 - 48 = nI (dg (cd 1)) := by
      rw [dg_n (show d < 10 by omega) _ h2, h2, show (48 : Int32) = nI 48 from rfl, pk_sub (by omega)]
      congr 1
      omega
    have eM : (if (7 : Int32) < (nI n - 2) / 5 then 7 else (nI n - 2) / 5) = nI M := by
      rw [show (2 : Int32) = nI 2 from rfl, pk_sub (by omega), show (5 : Int32) = nI 5 from rfl, pk_div (by omega) (by omega) (by omega), show (n - 2) / 5 = M by omega, if_neg (show ¬ (7 : Int32) < nI M from nI_nlt (a := 7) h7 (by omega))]
    simp only [lt]
    rw [s1, Option.bind_some, e48, eM]
    exact e1
  · have := (e2 j hj).1
    rw [if_pos (Nat.zero_le j)] at this
    exact this
  · have := (e2 j hj).2.1
    rw [if_pos (Nat.zero_le j)] at this
    exact this
  · have := (e2 j hj).2.2.1
    rw [if_pos (Nat.zero_le j)] at this
    exact this
  · have := (e2 j hj).2.2.2
    rw [if_pos (Nat.zero_le j)] at this
    exact this
theorem dy_loop {M : Nat} (h7 : M ≤ 7) (x1 x2 x3 x4 : Int32) (ms ml mh : Nat → Int32) (f lw : Int32) (b : Int64) (ra rl rmn rdg : Int32) {rk rc rw : Nat → Int32} (hr : RK cd M rk rc rw) : ∀ (d p : Nat) (kinds comes wants outs : Nat → Int32), M = p + d →
    ∃ k' c' w' r', Mo_day_l151 x1 x2 x3 x4 ms ml mh (nI p) f (nI M) lw b ra rl rmn rdg kinds comes wants outs rk rc rw = some (nI M, 0, nI M, lw, 0, ra, rl, rmn, 0, k', c', w', r', rk, rc, rw) ∧
      ∀ j, j < M → (k' j = if p ≤ j then nI (pkC (cd (2 + 5 * j + 1))) else kinds j) ∧ (c' j = if p ≤ j then nI (10 * dg (cd (2 + 5 * j + 2)) + dg (cd (2 + 5 * j + 3))) else comes j) ∧ (w' j = if p ≤ j then nI (dg (cd (2 + 5 * j + 4))) else wants j) ∧ (r' j = if p ≤ j then -9 else outs j)
  | 0, p, kinds, comes, wants, outs, hd => by
    refine ⟨kinds, comes, wants, outs, ?_, fun j hj => ⟨by rw [if_neg (by omega)], by rw [if_neg (by omega)], by rw [if_neg (by omega)], by rw [if_neg (by omega)]⟩⟩
    rw [Mo_day_l151_eq]
    unfold Mo_day_b151 Mo_day_j217 Mo_refused
    rw [if_pos (nI_le (by omega) (by omega)), pu_ex, Option.bind_some]
  | d + 1, p, kinds, comes, wants, outs, hd => by
    obtain ⟨q1, q2, q3⟩ := hr p (by omega)
    obtain ⟨k', c', w', r', e1, e2⟩ := dy_loop h7 x1 x2 x3 x4 ms ml mh f lw b ra rl rmn rdg hr d (p + 1) (upd kinds p (rk p)) (upd comes p (rc p)) (upd wants p (rw p)) (upd outs p (-9)) (by omega)
    refine ⟨k', c', w', r', ?_, fun j hj => ?_⟩
    · have hk : ck (nI p) 7 = true := ck_nI (by omega) (by omega)
      have hq : (nI p).toNatClampNeg = p := nI_clamp (by omega)
      rw [Mo_day_l151_eq]
      unfold Mo_day_b151
      simp only [lt, hk, hq, if_true]
      rw [if_neg (nI_ge (by omega) (by omega)), nI_1, pu_jp, Mo_day_l151_fd]
      exact e1
    · obtain ⟨t1, t2, t3, t4⟩ := e2 j hj
      rw [t1, t2, t3, t4, upd_eq, upd_eq, upd_eq, upd_eq]
      by_cases z : j = p
      · have n1 : ¬ p + 1 ≤ p := by omega
        rw [z]
        simp only [if_neg n1, if_true, if_pos (Nat.le_refl p)]
        exact ⟨q1, q2, q3, trivial⟩
      · rw [if_neg z, if_neg z, if_neg z, if_neg z]
        by_cases z2 : p ≤ j
        · rw [if_pos (show p + 1 ≤ j by omega), if_pos (show p + 1 ≤ j by omega), if_pos (show p + 1 ≤ j by omega), if_pos (show p + 1 ≤ j by omega), if_pos z2, if_pos z2, if_pos z2, if_pos z2]
          exact ⟨rfl, rfl, rfl, rfl⟩
        · rw [if_neg (show ¬ p + 1 ≤ j by omega), if_neg (show ¬ p + 1 ≤ j by omega), if_neg (show ¬ p + 1 ≤ j by omega), if_neg (show ¬ p + 1 ≤ j by omega), if_neg z2, if_neg z2, if_neg z2, if_neg z2]
          exact ⟨rfl, rfl, rfl, rfl⟩
end
theorem HB_0 : HB 0 := fun k _ => bitL_0 k
theorem T_day {la sz : Nat → Int32} {ce : Nat → Nat → Int32} {ms ml mh : Nat → Int32} {law cnt : Int32} {kinds comes wants outs : Nat → Int32} {rc : Int32} {persons minutes : Nat → Int32} {mcnt mlaw : Int32} {mkinds mcomes mwants mouts : Nat → Int32} {mrc : Int32} {mro mra : Nat → Int32}
    (hS : SHR la sz ce ms ml mh) (h : PI law cnt kinds comes wants outs rc persons minutes mcnt mlaw mkinds mcomes mwants mouts mrc mro mra) {b : Int64} (hb : HB b) (x y z w f f' : Int32) (ra rl rmn : Int32) (rk rcm rw : Nat → Int32) :
    ∃ o o', Tq_day x y z w la sz ce f law cnt b kinds comes wants outs rc = some o ∧ Mo_day x y z w ms ml mh f' mcnt mlaw b ra rl rmn mrc mkinds mcomes mwants mouts rk rcm rw = some o' ∧ o.1 = o'.1 ∧ o.2.1 = o'.2.1 ∧ o.2.2.2.2.1 = o'.2.2.2.2.1 ∧ HB o.2.2.2.2.1 ∧
      PI o.2.2.1 o.2.2.2.1 o.2.2.2.2.2.1 o.2.2.2.2.2.2.1 o.2.2.2.2.2.2.2.1 o.2.2.2.2.2.2.2.2.1 o.2.2.2.2.2.2.2.2.2 persons minutes o'.2.2.1 o'.2.2.2.1 o'.2.2.2.2.2.2.2.2.2.1 o'.2.2.2.2.2.2.2.2.2.2.1 o'.2.2.2.2.2.2.2.2.2.2.2.1 o'.2.2.2.2.2.2.2.2.2.2.2.2.1 o'.2.2.2.2.2.2.2.2.1 mro mra := by
  unfold Tq_day Mo_day Tq_faultless Tq_faulted Mo_refused Mo_failed
  rcases sh_cases x with ⟨k, hk, ex, h1, h2⟩ | ⟨h1, h2⟩
  · rw [h1, h2, ex]
    have hq : (nI k).toNatClampNeg = k := nI_clamp (by omega)
    have hck : ck (nI k) 4 = true := ck_nI hk (by omega)
    simp only [Option.bind_some, n10, if_false, if_true, hck, hq, lt]
    rcases la_cases y with ⟨m, hm, ev, h5, h6⟩ | ⟨h5, h6⟩
    · rw [h5, h6, ev]
      simp only [Option.bind_some, n10, if_false]
      unfold Mo_day_j57 Mo_failed Mo_refused
      simp only [Option.bind_some, hck, hq, if_true]
      rcases hS k hk with ⟨q1, q2, q3⟩ | ⟨l, s, q1, q2, q3, q4, q5, q6, q7⟩
      · rw [q1, q3, oth_m1, not_m1, if_pos m1_lt0, if_neg m1_nge0]
        simp only [Option.bind_some, n10, if_false, if_true]
        exact ⟨_, _, rfl, rfl, rfl, rfl, rfl, hb, h⟩
      · rw [q3, q5, oth_ok (x := y) q1 hm, not_ok q1, if_neg (nI_pos (by omega)), q6, q4, if_pos (nI_ge0 q2)]
        by_cases c0 : l = m
        · rw [if_pos c0, if_pos (show nI l = nI m by rw [c0])]
          simp only [Option.bind_some, if_true]
          by_cases c1 : 0 ≤ w
          · rw [if_pos c1, if_pos c1]
            rcases st_cases z w q2 with ⟨a, n, hac, ez, ew, h7, h8⟩ | ⟨h7, h8⟩
            · rw [h7, h8]
              simp only [Option.bind_some, n10, if_false, if_true]
              rw [ez, ew, ix_ok hk (by omega)]
              obtain ⟨o, e1, e2⟩ := Mo_readsDay_ok (mh := mh) hk (show a + n ≤ 60 by omega) ra rl rmn rk rcm rw
              rw [e1]
              simp only [Option.bind_some]
              have hcd : ∀ p, p < n → ce k (a + p) = cdF mh k a p := by
                intro p hp
                rw [q7 (a + p) (by omega)]
                show mh (60 * k + (a + p)) = mh (60 * k + a + p)
                rw [Nat.add_assoc]
              rcases e2 with ⟨M, e3, e4, e5, e6, e7, e8, e9, e10⟩ | ⟨q, e3, e4, e5, e6⟩
              · obtain ⟨k', c', w', r', g1, g2⟩ := readInto_ok q2 hcd hac e3 e5 e6 law cnt b kinds comes wants outs
                obtain ⟨k2, c2, w2, r2, g3, g4⟩ := dy_loop (cd := cdF mh k a) e5 (nI k) (nI m) (nI a) (nI n) ms ml mh f' (nI (dg (cdF mh k a 1))) b o.2.1 (nI (dg (cdF mh k a 1))) (nI M) mrc e10 M 0 mkinds mcomes mwants mouts (by omega)
                have g3 : Mo_day_l151 (nI k) (nI m) (nI a) (nI n) ms ml mh 0 f' (nI M) (nI (dg (cdF mh k a 1))) b o.2.1 (nI (dg (cdF mh k a 1))) (nI M) mrc mkinds mcomes mwants mouts o.2.2.2.2.1 o.2.2.2.2.2.1 o.2.2.2.2.2.2 = _ := g3
                rw [ff_end q2 hcd hac e6, j29_full e3 e4 (by omega)]
                simp only [Option.bind_some, if_true]
                rw [g1, e7, if_neg one_ne0, e8, e9, g3]
                simp only [Option.bind_some]
                refine ⟨_, _, rfl, rfl, rfl, rfl, rfl, HB_0, tP (cdF mh k a) M, 0, fun _ => 0, fun _ => 0, tP_ok e3 e5 e6, g2, ⟨rfl, rfl, fun j hj => ?_, fun j hj => ?_, fun j hj => ?_, fun j hj => ?_⟩, ⟨rfl, by omega, fun j hj => by omega⟩, ⟨rfl, by omega, fun j hj => by omega⟩⟩
                · have := (g4 j hj).1
                  rw [if_pos (Nat.zero_le j)] at this
                  exact this
                · have := (g4 j hj).2.1
                  rw [if_pos (Nat.zero_le j)] at this
                  exact this
                · have := (g4 j hj).2.2.1
                  rw [if_pos (Nat.zero_le j)] at this
                  exact this
                · have := (g4 j hj).2.2.2
                  rw [if_pos (Nat.zero_le j)] at this
                  exact this
              · have eff : Te_firstFault (nI a) (nI n) (nI s) (ce k) = some (nI q) := by
                  rcases e6 with z | z
                  · exact ff_bad q2 hcd hac z.1 e5 z.2
                  · rw [ff_end q2 hcd hac (by rw [← z.1]; exact e5), j29_soon (by omega) z.2, z.1]
                have hq60 : q ≤ 60 := by rcases e6 with z | z <;> omega
                rw [eff]
                simp only [Option.bind_some]
                rw [if_neg (show ¬ nI q = -9 from fun z => neg9 (by omega) z.symm), e3, if_pos rfl, e4]
                exact ⟨_, _, rfl, rfl, rfl, rfl, rfl, hb, h⟩
            · rw [h7, h8]
              simp only [Option.bind_some, n10, if_false, if_true]
              exact ⟨_, _, rfl, rfl, rfl, rfl, rfl, hb, h⟩
          · rw [if_neg c1, if_neg c1]
            exact ⟨_, _, rfl, rfl, rfl, rfl, rfl, hb, h⟩
        · rw [if_neg c0, if_neg (show ¬ nI l = nI m from fun z => c0 ((nI_eq (by omega) (by omega)).mp z))]
          simp only [Option.bind_some, n10, if_false]
          exact ⟨_, _, rfl, rfl, rfl, rfl, rfl, hb, h⟩
    · rw [h5, h6]
      simp only [Option.bind_some, if_true]
      exact ⟨_, _, rfl, rfl, rfl, rfl, rfl, hb, h⟩
  · rw [h1, h2]
    simp only [Option.bind_some, n10, if_false, if_true]
    exact ⟨_, _, rfl, rfl, rfl, rfl, rfl, hb, h⟩

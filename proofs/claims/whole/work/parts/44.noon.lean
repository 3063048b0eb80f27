/-! ===== who can be served by a minute ===== -/
theorem born {P : Pln} {who bell : Nat → Bool} {p t : Nat} : ∀ k, (dayAt P who bell k).2.2.2 p = some t → (dayAt P who bell (t + 1)).2.2.2 p = some t
  | 0, e => by simp [dayAt] at e
  | k + 1, e => by
    by_cases c : (dayAt P who bell k).2.2.2 p = some t
    · exact born k c
    · have e2 : (stepD P who bell k (dayAt P who bell k)).2.2.2 p = some t := e
      have ht : t = k := by
        unfold stepD at e2
        generalize dayAt P who bell k = S at c e2
        generalize belQ P bell k (preQ P who k S.1) = q at e2
        generalize svQ k S.2.1 S.2.2.1 = sv at e2
        cases sv with
        | some p0 => exact absurd e2 c
        | none =>
          cases q with
          | nil => exact absurd e2 c
          | cons p0 t0 =>
            have e3 : upO S.2.2.2 p0 (some k) p = some t := e2
            unfold upO at e3
            by_cases z : p = p0
            · rw [if_pos z] at e3
              exact (Option.some.inj e3).symm
            · rw [if_neg z] at e3
              exact absurd e3 c
      rw [ht] at e ⊢
      exact e
def bc (s : Nat) : Nat := s % 2 + s / 2 % 2 + s / 4 % 2 + s / 8 % 2 + s / 16 % 2 + s / 32 % 2 + s / 64 % 2
theorem bc_ok : ∀ s, s < 128 → JI_bitCount (nI s) = some (nI (bc s)) := by decide +kernel
theorem bc_lt : ∀ s, s < 128 → bc s < 8 := by decide +kernel
def bcR : Nat → Nat → Nat → Nat
  | 0, _, a => a
  | n + 1, x, a => bcR n (x / 2) (a + x % 2)
theorem bcR_s (n x a : Nat) : bcR (n + 1) x a = bcR n (x / 2) (a + x % 2) := rfl
theorem bcR_ok : ∀ s, s < 128 → bcR 8 s 0 = bc s := by decide +kernel
theorem bcR_0 : ∀ n a : Nat, bcR n 0 a = a
  | 0, _ => rfl
  | n + 1, a => by rw [bcR_s]; exact bcR_0 n a
theorem bits_loop (pp : Int32) : ∀ (n x a : Nat), x < 2 ^ n → x < 128 → Mo_bits_l4 pp (nI a) (nI x) = some (nI (bcR n x a))
  | 0, x, a, hx, _ => by
    have : x = 0 := by omega
    subst this
    rw [Mo_bits_l4_eq]
    unfold Mo_bits_b4
    rw [if_pos (show nI 0 ≤ 0 by decide), pu_rt]
    rfl
  | n + 1, x, a, hx, h1 => by
    rw [Mo_bits_l4_eq]
    unfold Mo_bits_b4
    simp only [lt]
    rcases Nat.eq_zero_or_pos x with c | c
    · subst c
      rw [if_pos (show nI 0 ≤ 0 by decide), pu_rt, bcR_0]
    · have e1 : nI x &&& 1 = nI (x % 2) := by
        show nI x &&& nI 1 = nI (x % 2)
        rw [nx_and, Nat.and_one_is_mod]
      have e2 : nI x >>> (1 &&& 31) = nI (x / 2) := pk_shrN (n := x) (by omega) (1 &&& 31) 1 (by decide)
      rw [if_neg (nI_nle c (by omega)), e1, e2, nI_add, pu_jp, Mo_bits_l4_fd, bcR_s]
      have hp : 2 ^ (n + 1) = 2 * 2 ^ n := by rw [Nat.pow_succ, Nat.mul_comm]
      exact bits_loop pp n (x / 2) (a + x % 2) (by omega) (by omega)
theorem bits_ok {s : Nat} (h : s < 128) : Mo_bits (nI s) = some (nI (bc s)) := by
  unfold Mo_bits
  have e := bits_loop (nI s) 8 s 0 (by show s < 2 ^ 8; omega) h
  rw [bcR_ok s h] at e
  exact e
/-- all of a set are served by a minute -/
def okR (P : Pln) (b : Int64) (s m : Nat) : Nat → Nat → Bool
  | 0, _ => true
  | d + 1, i => (if s.testBit i = true then decide (servedT P s.testBit (bellF b) i ≤ m) else true) && okR P b s m d (i + 1)
theorem okR_s (P : Pln) (b : Int64) (s m d i : Nat) : okR P b s m (d + 1) i = ((if s.testBit i = true then decide (servedT P s.testBit (bellF b) i ≤ m) else true) && okR P b s m d (i + 1)) := rfl
theorem okR_iff {P : Pln} {b : Int64} {s m : Nat} : ∀ (d i : Nat), okR P b s m d i = true ↔ ∀ p, i ≤ p → p < i + d → s.testBit p = true → servedT P s.testBit (bellF b) p ≤ m
  | 0, i => ⟨fun _ p h1 h2 => by omega, fun _ => rfl⟩
  | d + 1, i => by
    rw [okR_s, Bool.and_eq_true, okR_iff d (i + 1)]
    constructor
    · rintro ⟨h1, h2⟩ p q1 q2 q3
      by_cases c : p = i
      · subst c
        rw [if_pos q3] at h1
        exact of_decide_eq_true h1
      · exact h2 p (by omega) (by omega) q3
    · intro h
      refine ⟨?_, fun p q1 q2 q3 => h p (by omega) (by omega) q3⟩
      by_cases c : s.testBit i = true
      · rw [if_pos c]; exact decide_eq_true (h i (Nat.le_refl i) (by omega) c)
      · rw [if_neg c]
theorem set_bits {c s p : Nat} (hc : c ≤ 7) (hs : s < 2 ^ c) (h : s.testBit p = true) : p < c := by
  rcases Nat.lt_or_ge p c with z | z
  · exact z
  · have := Nat.testBit_lt_two_pow (Nat.lt_of_lt_of_le hs (Nat.pow_le_pow_right (by decide) z))
    rw [this] at h
    cases h
theorem run_noon {P : Pln} (hP : pOK P) {s m M : Nat} {b : Int64} {sv aw : Int32} {tn : Int64} {dn sz : Int32} {row sa : Nat → Int32} (hs : s < 2 ^ pCnt P) (hm : m < 200) (hM : M ≤ m + 1) (h : RC P s s b M sv aw tn dn sz row sa) (he : M = m + 1 ∨ aw = 0) : aw = 0 ↔ okR P b s m (pCnt P) 0 = true := by
  have hc := hP.2.1
  obtain ⟨⟨-, -, -, -, -, a, h6, h7, h8⟩, -⟩ := h
  have hD := DI_day hP s.testBit (bellF b) M
  rw [okR_iff]
  constructor
  · intro e p _ hp hsp
    have ha : a = 0 := by
      rw [e, li0] at h7
      exact ((nI_eq (by omega) (by omega)).mp h7).symm
    have h9 := h8 p (by omega)
    rw [ha, Nat.zero_testBit, hsp, Bool.true_and] at h9
    cases hse : (dayAt P s.testBit (bellF b) M).2.2.2 p with
    | none => rw [hse] at h9; cases h9
    | some t =>
      rw [servedT_at hP (by omega) hse]
      have := (hD.2.2.2.1 p t hse).2.2.2
      omega
  · intro hall
    rcases he with e | e
    · subst e
      have ha : a = 0 := by
        refine zero_bits a h6 (fun j hj => ?_)
        rw [h8 j hj]
        by_cases c : s.testBit j = true
        · have hjc := set_bits hc hs c
          have hv := hall j (Nat.zero_le j) (by omega) c
          have hb := born 200 (servedT_of hP (bell := bellF b) hjc c).1
          have hk := keep_day hP hb (k := m + 1) (by omega)
          rw [hk, c]
          rfl
        · rw [eq_false_of_ne_true c]; rfl
      rw [h7, ha]
      rfl
    · exact e
/-- the greatest, of several the least -/
def nnQ (P : Pln) (b : Int64) (m : Nat) : Nat → Nat → Nat → Nat
  | 0, _, g => g
  | d + 1, s, g => nnQ P b m d (s + 1) (if bc g < bc s ∧ okR P b s m (pCnt P) 0 = true then s else g)
theorem nnQ_s (P : Pln) (b : Int64) (m d s g : Nat) : nnQ P b m (d + 1) s g = nnQ P b m d (s + 1) (if bc g < bc s ∧ okR P b s m (pCnt P) 0 = true then s else g) := rfl
section
variable {P : Pln} {law : Int32} {kinds comes wants outs : Nat → Int32} {b : Int64}
theorem Ri_nn_loop (hP : pOK P) {m : Nat} (hm : m < 200) (hR : RP P law (nI (pCnt P)) kinds comes wants outs) :
    ∀ (d s g : Nat) (t1 t2 : Int32) (t3 : Int64) (t4 t5 : Int32) (row sa : Nat → Int32), 2 ^ pCnt P = s + d → g < 128 →
      ∃ o, Ri_greatestServedBy_l5 (nI m) law (nI (pCnt P)) b kinds comes wants outs (nI g) (nI s) t1 t2 t3 t4 t5 row sa = some o ∧ o.1 = nI (nnQ P b m d s g)
  | 0, s, g, t1, t2, t3, t4, t5, row, sa, hd, hg => by
    have h128 := pow7 hP.2.1
    have hpos : 0 < 2 ^ pCnt P := Nat.pow_pos (by decide)
    rw [Ri_greatestServedBy_l5_eq]
    unfold Ri_greatestServedBy_b5
    rw [ever_ok hP.2.1]
    simp only [Option.bind_some]
    rw [if_pos (nI_lt (by omega) (by omega)), pu_rt]
    exact ⟨_, rfl, rfl⟩
  | d + 1, s, g, t1, t2, t3, t4, t5, row, sa, hd, hg => by
    have h128 := pow7 hP.2.1
    rw [Ri_greatestServedBy_l5_eq]
    unfold Ri_greatestServedBy_b5
    rw [ever_ok hP.2.1, bc_ok s (by omega), bc_ok g hg]
    simp only [Option.bind_some, lt]
    have b1 := bc_lt s (by omega)
    have b2 := bc_lt g hg
    rw [if_neg (nI_nlt (by omega) (by omega)), nI_1, nnQ_s]
    by_cases c : bc g < bc s
    · rw [if_pos (nI_lt c (by omega))]
      obtain ⟨M, sv', aw', tn', dn', sz', row', sa', g1, g2, g3, g4⟩ := Co_run_ok (s := s) (tf := s) (L := m) (b := b) hP hR (by omega) (by omega) hm t1 t2 t3 t4 t5 row sa
      have hq := run_noon hP (by omega) hm g1 g3 g4
      rw [g2]
      simp only [Option.bind_some, pu_if, pu_jp, sg_l, Ri_greatestServedBy_l5_fd]
      by_cases c2 : okR P b s m (pCnt P) 0 = true
      · rw [if_pos (hq.mpr c2), if_pos ⟨c, c2⟩]
        exact Ri_nn_loop hP hm hR d (s + 1) s _ _ _ _ _ _ _ (by omega) (by omega)
      · rw [if_neg (fun z => c2 (hq.mp z)), if_neg (fun z => c2 z.2)]
        exact Ri_nn_loop hP hm hR d (s + 1) g _ _ _ _ _ _ _ (by omega) hg
    · rw [if_neg (nI_nlt (by omega) (by omega)), if_neg (fun z => c z.1), pu_jp, Ri_greatestServedBy_l5_fd]
      exact Ri_nn_loop hP hm hR d (s + 1) g _ _ _ _ _ _ _ (by omega) hg
theorem Mo_ok_loop (hP : pOK P) {m s : Nat} (hm : m < 200) (hs : s < 128) (x2 : Int32) (many now dnI : Int32) (row sa : Nat → Int32) (hsa : ∀ p, p < pCnt P → s.testBit p = true → sa p = nI (servedT P s.testBit (bellF b) p) ∧ servedT P s.testBit (bellF b) p < 200) :
    ∀ (d i : Nat), pCnt P = i + d → Mo_noon_l72 (nI m) (nI (pCnt P)) law b kinds comes wants outs x2 (nI s) 1 (nI i) many now dnI row sa = (Mo_noon_j119 (nI m) (nI (pCnt P)) law b kinds comes wants outs x2 (nI s) (bI (okR P b s m d i)) many now dnI row sa).bind (sg (fin (Mo_noon_s29 (nI m) (nI (pCnt P)) law b kinds comes wants outs)))
  | 0, i, hd => by
    have hc := hP.2.1
    rw [Mo_noon_l72_eq]
    unfold Mo_noon_b72
    rw [if_pos (nI_le (by omega) (by omega))]
    rfl
  | d + 1, i, hd => by
    have hc := hP.2.1
    rw [Mo_noon_l72_eq]
    unfold Mo_noon_b72
    simp only [lt]
    rw [if_neg (nI_ge (by omega) (by omega)), if_neg one_ne0, nI_1, okR_s]
    by_cases c : s.testBit i = true
    · obtain ⟨e1, e2⟩ := hsa i (by omega) c
      rw [if_neg (by rw [who_no (by omega) (by omega), c]; decide), if_pos (ck_nI (by omega) (by omega)), nI_clamp (by omega), e1, if_pos c]
      by_cases c2 : servedT P s.testBit (bellF b) i ≤ m
      · rw [if_neg (nI_nlt c2 (by omega)), pu_jp, Mo_noon_l72_fd, decide_eq_true c2, Bool.true_and]
        exact Mo_ok_loop hP hm hs x2 many now dnI row sa hsa d (i + 1) (by omega)
      · rw [if_pos (nI_lt (by omega) (by omega)), pu_jp, Mo_noon_l72_fd, decide_eq_false c2, Bool.false_and, Mo_noon_l72_eq]
        unfold Mo_noon_b72
        simp only [if_true]
        by_cases c3 : nI (pCnt P) ≤ nI (i + 1)
        · rw [if_pos c3]; rfl
        · rw [if_neg c3]; rfl
    · rw [if_pos ((who_no (by omega) (by omega)).mpr (eq_false_of_ne_true c)), pu_jp, Mo_noon_l72_fd, if_neg c, Bool.true_and]
      exact Mo_ok_loop hP hm hs x2 many now dnI row sa hsa d (i + 1) (by omega)
theorem Mo_nn_loop (hP : pOK P) {m : Nat} (hm : m < 200) (hR : RP P law (nI (pCnt P)) kinds comes wants outs) :
    ∀ (d s g : Nat) (many now dnI : Int32) (row sa : Nat → Int32), 2 ^ pCnt P = s + d → g < 128 →
      ∃ o, Mo_noon_l29 (nI m) (nI (pCnt P)) law b kinds comes wants outs (nI g) (nI s) many now dnI row sa = some o ∧ o.1 = nI (nnQ P b m d s g)
  | 0, s, g, many, now, dnI, row, sa, hd, hg => by
    have h128 := pow7 hP.2.1
    have hpos : 0 < 2 ^ pCnt P := Nat.pow_pos (by decide)
    rw [Mo_noon_l29_eq]
    unfold Mo_noon_b29
    rw [all_ok hP.2.1]
    simp only [Option.bind_some]
    rw [if_pos (nI_lt (by omega) (by omega)), pu_rt]
    exact ⟨_, rfl, rfl⟩
  | d + 1, s, g, many, now, dnI, row, sa, hd, hg => by
    have h128 := pow7 hP.2.1
    have hc := hP.2.1
    rw [Mo_noon_l29_eq]
    unfold Mo_noon_b29
    rw [all_ok hP.2.1, bits_ok (show s < 128 by omega), bits_ok hg]
    simp only [Option.bind_some]
    have b1 := bc_lt s (by omega)
    have b2 := bc_lt g hg
    rw [if_neg (nI_nlt (by omega) (by omega)), nnQ_s]
    unfold Mo_noon_j53
    by_cases c : bc g < bc s
    · rw [if_neg (nI_ge c (by omega)), if_neg one_ne0]
      obtain ⟨many', now', dn', row', sa', g1, g2⟩ := Mo_goDay_ok (s := s) (b := b) hP hR (by omega) many now dnI row sa
      have hsa : ∀ p, p < pCnt P → s.testBit p = true → sa' p = nI (servedT P s.testBit (bellF b) p) ∧ servedT P s.testBit (bellF b) p < 200 := by
        intro p hp hsp
        have q := servedT_of hP (bell := bellF b) hp hsp
        refine ⟨?_, q.2.2⟩
        rw [g2.2.2.2.2 p (by omega), q.1]
        rfl
      rw [g1]
      simp only [Option.bind_some, pu_jp, sg_l]
      have e := Mo_ok_loop (law := law) (kinds := kinds) (comes := comes) (wants := wants) (outs := outs) hP hm (show s < 128 by omega) (nI g) many' now' dn' row' sa' hsa (pCnt P) 0 (by omega)
      have e : fin (Mo_noon_s29 (nI m) (nI (pCnt P)) law b kinds comes wants outs) (1, nI g, nI s, 1, 0, many', now', dn', row', sa') = _ := e
      rw [e]
      unfold Mo_noon_j119
      simp only [lt, nI_1]
      by_cases c2 : okR P b s m (pCnt P) 0 = true
      · rw [c2, if_neg (show ¬ bI true = 0 by decide), if_pos ⟨c, rfl⟩, pu_jp, Mo_noon_l29_fd]
        exact Mo_nn_loop hP hm hR d (s + 1) s _ _ _ _ _ (by omega) (by omega)
      · rw [eq_false_of_ne_true c2, if_pos (show bI false = 0 from rfl), if_neg (fun z => by cases z.2), pu_jp, Mo_noon_l29_fd]
        exact Mo_nn_loop hP hm hR d (s + 1) g _ _ _ _ _ (by omega) hg
    · rw [if_pos (nI_le (by omega) (by omega)), if_neg (show ¬ (bc g < bc s ∧ okR P b s m (pCnt P) 0 = true) from fun z => c z.1)]
      simp only [if_true, pu_jp, sg_l]
      rw [Mo_noon_l72_fd, Mo_noon_l72_eq]
      unfold Mo_noon_b72
      have e : ∀ A : Option _, (if nI (pCnt P) ≤ 0 then Mo_noon_j119 (nI m) (nI (pCnt P)) law b kinds comes wants outs (nI g) (nI s) 0 many now dnI row sa else (if (0 : Int32) = 0 then Mo_noon_j119 (nI m) (nI (pCnt P)) law b kinds comes wants outs (nI g) (nI s) 0 many now dnI row sa else A)) = Mo_noon_j119 (nI m) (nI (pCnt P)) law b kinds comes wants outs (nI g) (nI s) 0 many now dnI row sa := by
        intro A
        by_cases z : nI (pCnt P) ≤ 0
        · rw [if_pos z]
        · rw [if_neg z, if_pos rfl]
      rw [e]
      unfold Mo_noon_j119
      simp only [lt, nI_1, if_true, pu_jp]
      rw [Mo_noon_l29_fd]
      exact Mo_nn_loop hP hm hR d (s + 1) g _ _ _ _ _ (by omega) hg
end
theorem T_noon {P : Pln} {law cnt mlaw mcnt : Int32} {kinds comes wants outs mkinds mcomes mwants mouts : Nat → Int32} {b : Int64} (hP : pOK P) (hR : RP P law cnt kinds comes wants outs) (hM : RP P mlaw mcnt mkinds mcomes mwants mouts) (x : Int32) (t1 t2 : Int32) (t3 : Int64) (t4 t5 : Int32) (row sa : Nat → Int32) (many now dnI : Int32) (row2 sa2 : Nat → Int32) :
    ∃ o o', Tq_noon x law cnt b kinds comes wants outs t1 t2 t3 t4 t5 row sa = some o ∧ Mo_noon x mcnt mlaw b mkinds mcomes mwants mouts many now dnI row2 sa2 = some o' ∧ o.1 = o'.1 := by
  have hc := hP.2.1
  obtain ⟨rfl, rfl, -⟩ := id hR
  obtain ⟨rfl, rfl, -⟩ := id hM
  unfold Tq_noon Mo_noon
  rcases in_cases x (n := 200) (by omega) 199 (by decide) with ⟨m, hm, e, h1⟩ | ⟨c, h1⟩
  · rw [h1]
    simp only [Option.bind_some, n10, if_false]
    rw [e, if_neg (nI_pos (by omega)), show (199 : Int32) = nI 199 from rfl, if_pos (nI_le (by omega) (by omega))]
    rcases none_cases hc with ⟨c0, h3, h4⟩ | ⟨c0, h3, h4⟩
    · rw [h3, if_pos h4]
      simp only [Option.bind_some, n10, if_false]
      exact ⟨_, _, rfl, rfl, rfl⟩
    · rw [h3, if_neg h4]
      simp only [Option.bind_some, if_true]
      have hpos : 0 < 2 ^ pCnt P := Nat.pow_pos (by decide)
      obtain ⟨o, e1, e2⟩ := Ri_nn_loop (b := b) hP hm hR (2 ^ pCnt P - 1) 1 0 t1 t2 t3 t4 t5 row sa (by omega) (by omega)
      obtain ⟨o', e3, e4⟩ := Mo_nn_loop (b := b) hP hm hM (2 ^ pCnt P - 1) 1 0 many now dnI row2 sa2 (by omega) (by omega)
      unfold Ri_greatestServedBy
      have e1 : Ri_greatestServedBy_l5 (nI m) (nI (pLaw P)) (nI (pCnt P)) b kinds comes wants outs 0 1 t1 t2 t3 t4 t5 row sa = some o := e1
      have e3 : Mo_noon_l29 (nI m) (nI (pCnt P)) (nI (pLaw P)) b mkinds mcomes mwants mouts 0 1 many now dnI row2 sa2 = some o' := e3
      rw [e1, e3]
      simp only [Option.bind_some]
      refine ⟨_, _, rfl, rfl, ?_⟩
      dsimp only
      rw [e2, e4]
  · rw [h1]
    simp only [Option.bind_some, if_true]
    by_cases c1 : x < 0
    · rw [if_pos c1]
      exact ⟨_, _, rfl, rfl, rfl⟩
    · rw [if_neg c1]
      have c2 : ¬ x ≤ 199 := by
        rw [i_le]
        have z := i_le.mp (c.resolve_left c1)
        have m1 : (199 : Int32).toInt = 199 := by decide
        rw [nI_toInt (by omega)] at z
        omega
      rw [if_neg c2]
      exact ⟨_, _, rfl, rfl, rfl⟩

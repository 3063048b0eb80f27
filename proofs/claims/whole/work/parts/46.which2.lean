/-! ===== which: the sets found, in order ===== -/
def fnd (f s : Int32) (w : Int32 × Int32 × Int32) : Int32 × Int32 × Int32 := if w.1 = 0 then (w.1 + 1, f, s) else (w.1 + 1, w.2.1, w.2.2)
def ffd (F : Bool) (f s : Int32) (w : Int32 × Int32 × Int32) : Int32 × Int32 × Int32 := if F = true then fnd f s w else w
theorem ffd_t (f s : Int32) (w : Int32 × Int32 × Int32) : ffd true f s w = fnd f s w := rfl
theorem ffd_f (f s : Int32) (w : Int32 × Int32 × Int32) : ffd false f s w = w := rfl
theorem fnd_eq (f s w1 w2 w3 : Int32) : Ri_found f s w1 w2 w3 = some (fnd f s (w1, w2, w3)) := by
  unfold Ri_found fnd
  simp only [lt]
  by_cases c : w1 = 0
  · rw [if_pos c, if_pos c]
  · rw [if_neg c, if_neg c]
theorem hasMin_b {b : Int64} {m : Nat} (hm : m < 60) : Tq_hasMinute b (nI m) = some (bI (bitL b m)) := by
  rw [hasMin_ok (by omega)]
  unfold bI
  by_cases c : bitL b m = true
  · rw [if_pos ⟨hm, c⟩, if_pos c]
  · rw [if_neg (fun q => c q.2), if_neg c]
theorem bI_0 {x : Bool} : bI x = 0 ↔ x = false := by cases x <;> decide
def whS (P : Pln) (n : Nat) (rp rm : Nat → Nat) : Nat → Nat → Int32 × Int32 × Int32 → Int32 × Int32 × Int32
  | 0, _, w => w
  | d + 1, a, w => whS P n rp rm d (a + 1) (ffd (FT P n rp rm (one1 a)) (nI a) (-9) w)
theorem whS_s (P : Pln) (n : Nat) (rp rm : Nat → Nat) (d a : Nat) (w : Int32 × Int32 × Int32) : whS P n rp rm (d + 1) a w = whS P n rp rm d (a + 1) (ffd (FT P n rp rm (one1 a)) (nI a) (-9) w) := rfl
def whR (P : Pln) (n : Nat) (rp rm : Nat → Nat) (a : Nat) : Nat → Nat → Int32 × Int32 × Int32 → Int32 × Int32 × Int32
  | 0, _, w => w
  | d + 1, c, w => whR P n rp rm a d (c + 1) (ffd (FT P n rp rm (one1 a ||| one1 c)) (nI a) (nI c) w)
theorem whR_s (P : Pln) (n : Nat) (rp rm : Nat → Nat) (a d c : Nat) (w : Int32 × Int32 × Int32) : whR P n rp rm a (d + 1) c w = whR P n rp rm a d (c + 1) (ffd (FT P n rp rm (one1 a ||| one1 c)) (nI a) (nI c) w) := rfl
def whQ (P : Pln) (n : Nat) (rp rm : Nat → Nat) : Nat → Nat → Int32 × Int32 × Int32 → Int32 × Int32 × Int32
  | 0, _, w => w
  | d + 1, a, w => whQ P n rp rm d (a + 1) (whR P n rp rm a d (a + 1) w)
theorem whQ_s (P : Pln) (n : Nat) (rp rm : Nat → Nat) (d a : Nat) (w : Int32 × Int32 × Int32) : whQ P n rp rm (d + 1) a w = whQ P n rp rm d (a + 1) (whR P n rp rm a d (a + 1) w) := rfl
section
variable {P : Pln} {n : Nat} {rp rm : Nat → Nat} {law cnt : Int32} {kinds comes wants outs : Nat → Int32} {rc : Int32} {persons minutes : Nat → Int32} {tn ft : Int64} {tb : Nat → Int64}
theorem Ri_j86 (F : Bool) {a c : Nat} (w1 w2 w3 : Int32) (t1 t2 : Int32) (t3 : Int64) (t4 t5 : Int32) (row sa : Nat → Int32) (gb : Int64) :
    (Ri_findPairs_j86 tn ft law cnt kinds comes wants outs tb rc persons minutes (nI a) (nI c) (bI F) w1 w2 w3 t1 t2 t3 t4 t5 row sa gb).bind (sg (fin (Ri_findPairs_s3 tn ft law cnt kinds comes wants outs tb rc persons minutes))) =
    Ri_findPairs_l16 tn ft law cnt kinds comes wants outs tb rc persons minutes (nI a) (nI (c + 1)) (ffd F (nI a) (nI c) (w1, w2, w3)).1 (ffd F (nI a) (nI c) (w1, w2, w3)).2.1 (ffd F (nI a) (nI c) (w1, w2, w3)).2.2 t1 t2 t3 t4 t5 row sa gb := by
  unfold Ri_findPairs_j86
  simp only [lt]
  cases F with
  | false => rw [if_pos (show bI false = 0 from rfl), nI_1, pu_jp, Ri_findPairs_l16_fd, ffd_f]
  | true => rw [if_neg (show ¬ bI true = 0 by decide), fnd_eq, Option.bind_some, nI_1, pu_jp, Ri_findPairs_l16_fd, ffd_t]
theorem Ri_fp_loop (hP : pOK P) (hR : RP P law cnt kinds comes wants outs) (h : RR P n rp rm rc persons minutes) (hT : TNi P n rp 0 tn) (hft : ∀ a, a < 60 → bitL ft a = FT P n rp rm (one1 a)) (htb : ∀ a, a < 60 → bitL tn a = true → TNi P n rp (one1 a) (tb a)) {a : Nat} (ha : a < 60) :
    ∀ (d c : Nat) (w1 w2 w3 : Int32) (t1 t2 : Int32) (t3 : Int64) (t4 t5 : Int32) (row sa : Nat → Int32) (gb : Int64), 60 = c + d → a < c →
      ∃ t1' t2' t3' t4' t5' row' sa' gb', Ri_findPairs_l16 tn ft law cnt kinds comes wants outs tb rc persons minutes (nI a) (nI c) w1 w2 w3 t1 t2 t3 t4 t5 row sa gb =
        Ri_findPairs_l3 tn ft law cnt kinds comes wants outs tb rc persons minutes (nI (a + 1)) (whR P n rp rm a d c (w1, w2, w3)).1 (whR P n rp rm a d c (w1, w2, w3)).2.1 (whR P n rp rm a d c (w1, w2, w3)).2.2 t1' t2' t3' t4' t5' row' sa' gb'
  | 0, c, w1, w2, w3, t1, t2, t3, t4, t5, row, sa, gb, hd, hac => by
    rw [Ri_findPairs_l16_eq]
    unfold Ri_findPairs_b16
    simp only [lt]
    rw [show (60 : Int32) = nI 60 from rfl, if_pos (nI_le (by omega) (by omega)), nI_1, pu_jp, Ri_findPairs_l3_fd]
    exact ⟨_, _, _, _, _, _, _, _, rfl⟩
  | d + 1, c, w1, w2, w3, t1, t2, t3, t4, t5, row, sa, gb, hd, hac => by
    rw [Ri_findPairs_l16_eq]
    unfold Ri_findPairs_b16
    simp only [lt]
    rw [show (60 : Int32) = nI 60 from rfl, if_neg (nI_ge (by omega) (by omega)), hasMin_b (b := tn) ha, Option.bind_some, whR_s]
    have go : ∀ (F : Bool) (t1 t2 : Int32) (t3 : Int64) (t4 t5 : Int32) (row sa : Nat → Int32) (gb : Int64), FT P n rp rm (one1 a ||| one1 c) = F → ∃ t1' t2' t3' t4' t5' row' sa' gb',
        (Ri_findPairs_j86 tn ft law cnt kinds comes wants outs tb rc persons minutes (nI a) (nI c) (bI F) w1 w2 w3 t1 t2 t3 t4 t5 row sa gb).bind (sg (fin (Ri_findPairs_s3 tn ft law cnt kinds comes wants outs tb rc persons minutes))) =
        Ri_findPairs_l3 tn ft law cnt kinds comes wants outs tb rc persons minutes (nI (a + 1)) (whR P n rp rm a d (c + 1) (ffd (FT P n rp rm (one1 a ||| one1 c)) (nI a) (nI c) (w1, w2, w3))).1 (whR P n rp rm a d (c + 1) (ffd (FT P n rp rm (one1 a ||| one1 c)) (nI a) (nI c) (w1, w2, w3))).2.1 (whR P n rp rm a d (c + 1) (ffd (FT P n rp rm (one1 a ||| one1 c)) (nI a) (nI c) (w1, w2, w3))).2.2 t1' t2' t3' t4' t5' row' sa' gb' := by
      intro F t1 t2 t3 t4 t5 row sa gb hF
      rw [Ri_j86, hF]
      generalize ffd F (nI a) (nI c) (w1, w2, w3) = zz
      obtain ⟨z1, z2, z3⟩ := zz
      exact Ri_fp_loop hP hR h hT hft htb ha d (c + 1) z1 z2 z3 t1 t2 t3 t4 t5 row sa gb (by omega) (by omega)
    by_cases q1 : bitL tn a = true
    · rw [q1, if_neg (show ¬ bI true = 0 by decide), if_pos (ck_nI ha (by omega)), nI_clamp (by omega), hasMin_b (b := tb a) (show c < 60 by omega), Option.bind_some]
      by_cases q2 : bitL (tb a) c = true
      · rw [q2, if_neg (show ¬ bI true = 0 by decide)]
        obtain ⟨o, e1, e2, -⟩ := Ri_fits_ok hP hR h (one1 a ||| one1 c) t1 t2 t3 t4 t5 row sa gb
        have e1 : Ri_fits (((1 : Int64) <<< ((nI a).toInt64 &&& 63)) ||| ((1 : Int64) <<< ((nI c).toInt64 &&& 63))) law cnt kinds comes wants outs rc persons minutes t1 t2 t3 t4 t5 row sa gb = some o := e1
        rw [e1, Option.bind_some, e2]
        exact go _ _ _ _ _ _ _ _ _ rfl
      · rw [eq_false_of_ne_true q2, if_pos (show bI false = 0 from rfl), hasMin_b (b := ft) ha, Option.bind_some, hft a ha]
        exact go _ _ _ _ _ _ _ _ _ (FT_two2 hP (htb a ha q1) hac (by omega) q2)
    · rw [eq_false_of_ne_true q1, if_pos (show bI false = 0 from rfl), hasMin_b (b := ft) (show c < 60 by omega), Option.bind_some, hft c (by omega)]
      exact go _ _ _ _ _ _ _ _ _ (FT_two1 hP hT hac (by omega) q1)
theorem Ri_fq_loop (hP : pOK P) (hR : RP P law cnt kinds comes wants outs) (h : RR P n rp rm rc persons minutes) (hT : TNi P n rp 0 tn) (hft : ∀ a, a < 60 → bitL ft a = FT P n rp rm (one1 a)) (htb : ∀ a, a < 60 → bitL tn a = true → TNi P n rp (one1 a) (tb a)) :
    ∀ (d a : Nat) (w1 w2 w3 : Int32) (t1 t2 : Int32) (t3 : Int64) (t4 t5 : Int32) (row sa : Nat → Int32) (gb : Int64), 60 = a + d →
      ∃ t1' t2' t3' t4' t5' row' sa' gb', Ri_findPairs_l3 tn ft law cnt kinds comes wants outs tb rc persons minutes (nI a) w1 w2 w3 t1 t2 t3 t4 t5 row sa gb =
        some ((whQ P n rp rm d a (w1, w2, w3)).1, (whQ P n rp rm d a (w1, w2, w3)).2.1, (whQ P n rp rm d a (w1, w2, w3)).2.2, t1', t2', t3', t4', t5', row', sa', gb')
  | 0, a, w1, w2, w3, t1, t2, t3, t4, t5, row, sa, gb, hd => by
    rw [Ri_findPairs_l3_eq]
    unfold Ri_findPairs_b3
    rw [show (60 : Int32) = nI 60 from rfl, if_pos (nI_le (by omega) (by omega)), pu_rt]
    exact ⟨_, _, _, _, _, _, _, _, rfl⟩
  | d + 1, a, w1, w2, w3, t1, t2, t3, t4, t5, row, sa, gb, hd => by
    rw [Ri_findPairs_l3_eq]
    unfold Ri_findPairs_b3
    simp only [lt]
    rw [show (60 : Int32) = nI 60 from rfl, if_neg (nI_ge (by omega) (by omega)), nI_1, pu_jp, Ri_findPairs_l16_fd, whQ_s]
    obtain ⟨t1', t2', t3', t4', t5', row', sa', gb', e⟩ := Ri_fp_loop hP hR h hT hft htb (show a < 60 by omega) d (a + 1) w1 w2 w3 t1 t2 t3 t4 t5 row sa gb (by omega) (by omega)
    rw [e]
    generalize whR P n rp rm a d (a + 1) (w1, w2, w3) = zz
    obtain ⟨z1, z2, z3⟩ := zz
    exact Ri_fq_loop hP hR h hT hft htb d (a + 1) z1 z2 z3 _ _ _ _ _ _ _ _ (by omega)
theorem updL_eq (f : Nat → Int64) (k : Nat) (x : Int64) (j : Nat) : vp_updL f k x j = if j = k then x else f j := rfl
theorem Ri_fs_loop (hP : pOK P) (hR : RP P law cnt kinds comes wants outs) (h : RR P n rp rm rc persons minutes) (hT : TNi P n rp 0 tn) (u1 u2 : Int32) (u3 : Int64) (u4 u5 u6 u7 : Nat → Int32) :
    ∀ (d a : Nat) (ft : Int64) (tb : Nat → Int64) (w1 w2 w3 : Int32) (t1 t2 : Int32) (t3 : Int64) (t4 t5 : Int32) (row sa : Nat → Int32) (gb : Int64), 60 = a + d →
      (∀ k, k < 60 → bitL ft k = (decide (k < a) && FT P n rp rm (one1 k))) → (∀ k, k < a → bitL tn k = true → TNi P n rp (one1 k) (tb k)) →
      ∃ o, Ri_findSets_l59 u1 u2 u3 u4 u5 u6 u7 rc persons minutes (bI (FT P n rp rm 0)) tn ft (nI a) w1 w2 w3 t1 t2 t3 t4 t5 row sa law cnt gb kinds comes wants outs tb = some o ∧
        (o.1, o.2.1, o.2.2.1) = whQ P n rp rm 60 0 (whS P n rp rm d a (w1, w2, w3))
  | 0, a, ft, tb, w1, w2, w3, t1, t2, t3, t4, t5, row, sa, gb, hd, hft, htb => by
    rw [Ri_findSets_l59_eq]
    unfold Ri_findSets_b59
    rw [show (60 : Int32) = nI 60 from rfl, if_pos (nI_le (by omega) (by omega))]
    unfold Ri_findPairs
    obtain ⟨t1', t2', t3', t4', t5', row', sa', gb', e⟩ := Ri_fq_loop hP hR h hT (fun k hk => by rw [hft k hk, decide_eq_true (by omega), Bool.true_and]) (fun k hk => htb k (by omega)) 60 0 w1 w2 w3 t1 t2 t3 t4 t5 row sa gb (by omega)
    have e : Ri_findPairs_l3 tn ft law cnt kinds comes wants outs tb rc persons minutes 0 w1 w2 w3 t1 t2 t3 t4 t5 row sa gb = _ := e
    rw [e, Option.bind_some, pu_rt]
    refine ⟨_, rfl, ?_⟩
    show _ = whQ P n rp rm 60 0 (w1, w2, w3)
    generalize whQ P n rp rm 60 0 (w1, w2, w3) = zz
    rfl
  | d + 1, a, ft, tb, w1, w2, w3, t1, t2, t3, t4, t5, row, sa, gb, hd, hft, htb => by
    rw [Ri_findSets_l59_eq]
    unfold Ri_findSets_b59
    rw [show (60 : Int32) = nI 60 from rfl, if_neg (nI_ge (by omega) (by omega)), hasMin_b (b := tn) (show a < 60 by omega), Option.bind_some, whS_s]
    have go : ∀ (F : Bool) (v : Int64) (t1 t2 : Int32) (t3 : Int64) (t4 t5 : Int32) (row sa : Nat → Int32) (gb : Int64), FT P n rp rm (one1 a) = F → (bitL tn a = true → TNi P n rp (one1 a) v) →
        ∃ o, (Ri_findSets_j118 u1 u2 u3 u4 u5 u6 u7 rc persons minutes (bI (FT P n rp rm 0)) tn ft (nI a) (bI F) (nI a) v w1 w2 w3 t1 t2 t3 t4 t5 row sa law cnt gb kinds comes wants outs tb).bind (sg (fin (Ri_findSets_s59 u1 u2 u3 u4 u5 u6 u7 rc persons minutes))) = some o ∧
        (o.1, o.2.1, o.2.2.1) = whQ P n rp rm 60 0 (whS P n rp rm d (a + 1) (ffd (FT P n rp rm (one1 a)) (nI a) (-9) (w1, w2, w3))) := by
      intro F v t1 t2 t3 t4 t5 row sa gb hF hv
      have htb' : ∀ k, k < a + 1 → bitL tn k = true → TNi P n rp (one1 k) (vp_updL tb a v k) := by
        intro k hk hb
        rw [updL_eq]
        by_cases z : k = a
        · rw [if_pos z, z]; exact hv (by rw [← z]; exact hb)
        · rw [if_neg z]; exact htb k (by omega) hb
      unfold Ri_findSets_j118
      simp only [lt]
      rw [if_pos (ck_nI (show a < 60 by omega) (by omega)), nI_clamp (by omega), hF]
      cases F with
      | false =>
        rw [if_pos (show bI false = 0 from rfl), nI_1, pu_jp, Ri_findSets_l59_fd, ffd_f]
        refine Ri_fs_loop hP hR h hT u1 u2 u3 u4 u5 u6 u7 d (a + 1) ft _ w1 w2 w3 t1 t2 t3 t4 t5 row sa gb (by omega) (fun k hk => ?_) htb'
        rw [hft k hk]
        by_cases z : k = a
        · rw [z, hF]; simp
        · rw [show decide (k < a + 1) = decide (k < a) from decide_eq_decide.mpr (by omega)]
      | true =>
        rw [if_neg (show ¬ bI true = 0 by decide), fnd_eq, Option.bind_some, nI_1, pu_jp, Ri_findSets_l59_fd, ffd_t]
        generalize fnd (nI a) (-9) (w1, w2, w3) = zz
        obtain ⟨z1, z2, z3⟩ := zz
        refine Ri_fs_loop hP hR h hT u1 u2 u3 u4 u5 u6 u7 d (a + 1) _ _ z1 z2 z3 t1 t2 t3 t4 t5 row sa gb (by omega) (fun k hk => ?_) htb'
        rw [bitL_or, bitL_one (show a < 64 by omega), hft k hk]
        by_cases z : k = a
        · rw [z, hF]; simp
        · rw [show decide (k < a + 1) = decide (k < a) from decide_eq_decide.mpr (by omega), decide_eq_false z, Bool.or_false]
    by_cases q1 : bitL tn a = true
    · rw [q1, if_neg (show ¬ bI true = 0 by decide)]
      obtain ⟨o, e1, e2, e3⟩ := Ri_fits_ok hP hR h (one1 a) t1 t2 t3 t4 t5 row sa gb
      have e1 : Ri_fits ((1 : Int64) <<< ((nI a).toInt64 &&& 63)) law cnt kinds comes wants outs rc persons minutes t1 t2 t3 t4 t5 row sa gb = some o := e1
      rw [e1, Option.bind_some, e2]
      unfold Ri_findSets_j93
      rw [if_neg (show ¬ bI true = 0 by decide)]
      exact go _ _ _ _ _ _ _ _ _ _ rfl (fun _ => e3)
    · rw [eq_false_of_ne_true q1, if_pos (show bI false = 0 from rfl)]
      unfold Ri_findSets_j93
      rw [if_pos (show bI false = 0 from rfl)]
      exact go _ _ _ _ _ _ _ _ _ _ (FT_one hP hT (by omega) q1) (fun z => absurd z q1)
theorem Ri_findSets_ok {pb : Int64} (hP : pOK P) (hR : RP P law cnt kinds comes wants outs) (h : RR P n rp rm rc persons minutes) (w1 w2 w3 : Int32) (t1 t2 : Int32) (t3 : Int64) (t4 t5 : Int32) (row sa : Nat → Int32) (gl gc0 : Int32) (gb : Int64) (gk gc gw go : Nat → Int32) (tb : Nat → Int64) :
    ∃ o, Ri_findSets law cnt pb kinds comes wants outs rc persons minutes w1 w2 w3 t1 t2 t3 t4 t5 row sa gl gc0 gb gk gc gw go tb = some o ∧
      (o.1, o.2.1, o.2.2.1) = whQ P n rp rm 60 0 (whS P n rp rm 60 0 (ffd (FT P n rp rm 0) (-9) (-9) (0, -9, -9))) := by
  obtain ⟨k', c', w', r', g1, g2⟩ := takeFrom_ok law cnt pb kinds comes wants outs gl gc0 gb gk gc gw go
  have hR' : RP P law cnt k' c' w' r' := RP_same hP hR g2
  unfold Ri_findSets
  rw [g1, Option.bind_some]
  obtain ⟨o, e1, e2, e3⟩ := Ri_fits_ok hP hR' h 0 t1 t2 t3 t4 t5 row sa pb
  have e1 : Ri_fits 0 law cnt k' c' w' r' rc persons minutes t1 t2 t3 t4 t5 row sa pb = some o := e1
  dsimp only
  rw [e1, Option.bind_some]
  have go := fun z1 z2 z3 => Ri_fs_loop hP hR' h e3 law cnt pb kinds comes wants outs 60 0 0 tb z1 z2 z3 o.2.1 o.2.2.1 o.2.2.2.1 o.2.2.2.2.1 o.2.2.2.2.2.1 o.2.2.2.2.2.2.1 o.2.2.2.2.2.2.2.1 o.2.2.2.2.2.2.2.2 (by omega) (fun k hk => by rw [bitL_0, decide_eq_false (by omega), Bool.false_and]) (fun k hk => by omega)
  rw [e2]
  cases hF : FT P n rp rm 0 with
  | false =>
    rw [if_pos (show bI false = 0 from rfl), ffd_f, ← hF]
    exact go 0 (-9) (-9)
  | true =>
    rw [if_neg (show ¬ bI true = 0 by decide), fnd_eq, Option.bind_some, ffd_t, ← hF]
    generalize fnd (-9) (-9) (0, -9, -9) = zz
    obtain ⟨z1, z2, z3⟩ := zz
    exact go z1 z2 z3
/-! the reference -/
theorem Mo_so_loop (hP : pOK P) (h : RR P n rp rm rc persons minutes) {b : Int64} {many now dnI : Int32} {row sa : Nat → Int32} (hs : ∀ p, p < pCnt P → sa p = nI (SV P b p)) : ∀ (d i : Nat) (F : Bool), n = i + d → Mo_areSo_l14 b cnt law (nI n) kinds comes wants outs persons minutes (bI F) (nI i) many now dnI row sa = some (bI (F && fit P rp rm b d i), many, now, dnI, row, sa)
  | 0, i, F, hd => by
    have h8 := h.2.1
    rw [Mo_areSo_l14_eq]
    unfold Mo_areSo_b14
    rw [if_pos (nI_le (by omega) (by omega)), if_pos (bI_and F), pu_rt]
    show _ = some (bI (F && true), _)
    rw [Bool.and_true]
  | d + 1, i, F, hd => by
    have h8 := h.2.1
    have hc := hP.2.1
    obtain ⟨q1, q2, q3, q4⟩ := h.2.2 i (by omega)
    have hv := (SV_ge hP b q2).2
    rw [Mo_areSo_l14_eq]
    unfold Mo_areSo_b14
    simp only [lt]
    rw [if_neg (nI_ge (by omega) (by omega)), fit_s]
    cases F with
    | false =>
      rw [if_pos (show bI false = 0 from rfl), nI_1, pu_jp, Mo_areSo_l14_fd]
      have := Mo_so_loop (many := many) (now := now) (dnI := dnI) (row := row) hP h hs d (i + 1) false (by omega)
      rw [Bool.false_and] at this ⊢
      exact this
    | true =>
      rw [if_neg (show ¬ bI true = 0 by decide), if_pos (ck_nI (by omega) (by omega)), nI_clamp (by omega), q1, if_pos (ck_nI (by omega) (by omega)), if_pos (ck_nI (by omega) (by omega)), nI_clamp (by omega), hs _ q2, q3, Bool.true_and]
      by_cases c : SV P b (rp i) = rm i
      · rw [if_pos (by rw [c]), nI_1, pu_jp, Mo_areSo_l14_fd, decide_eq_true c]
        exact Mo_so_loop hP h hs d (i + 1) true (by omega)
      · rw [if_neg (by rw [nI_eq (by omega) (by omega)]; exact c), nI_1, pu_jp, Mo_areSo_l14_fd, decide_eq_false c]
        exact Mo_so_loop hP h hs d (i + 1) false (by omega)
theorem Mo_areSo_ok (hP : pOK P) (hR : RP P law cnt kinds comes wants outs) (h : RR P n rp rm rc persons minutes) (b : Int64) (many now dnI : Int32) (row sa : Nat → Int32) :
    ∃ many' now' dn' row' sa', Mo_areSo b cnt law rc kinds comes wants outs persons minutes many now dnI row sa = some (bI (FT P n rp rm b), many', now', dn', row', sa') := by
  have hc := hP.2.1
  have h128 := pow7 hc
  obtain ⟨many', now', dn', row', sa', g1, g2⟩ := Mo_goDay_ok (s := 2 ^ pCnt P - 1) (b := b) hP hR (by omega) many now dnI row sa
  have hs : ∀ p, p < pCnt P → sa' p = nI (SV P b p) := by
    intro p hp
    rw [g2.2.2.2.2 p (by omega), (servedT_of hP hp (all_bit hp)).1]
    rfl
  unfold Mo_areSo
  rw [hR.2.1, all_ok hc, Option.bind_some, ← hR.2.1, g1, Option.bind_some]
  have e := Mo_so_loop (law := law) (cnt := cnt) (kinds := kinds) (comes := comes) (wants := wants) (outs := outs) (many := many') (now := now') (dnI := dn') (row := row') hP h hs n 0 true (by omega)
  have e : Mo_areSo_l14 b cnt law (nI n) kinds comes wants outs persons minutes 1 0 many' now' dn' row' sa' = _ := e
  dsimp only
  rw [h.1, e, Bool.true_and]
  exact ⟨_, _, _, _, _, rfl⟩
theorem Mo_try_ok (hP : pOK P) (hR : RP P law cnt kinds comes wants outs) (h : RR P n rp rm rc persons minutes) (f s : Int32) (s0 s1 : Int64) (w1 w2 w3 : Int32) (many now dnI : Int32) (row sa : Nat → Int32) :
    ∃ many' now' dn' row' sa', Mo_tryBells_j24 f s cnt law rc kinds comes wants outs persons minutes s0 s1 many now dnI w1 w2 w3 row sa = some (many', now', dn', (ffd (FT P n rp rm (s0 ||| s1)) f s (w1, w2, w3)).1, (ffd (FT P n rp rm (s0 ||| s1)) f s (w1, w2, w3)).2.1, (ffd (FT P n rp rm (s0 ||| s1)) f s (w1, w2, w3)).2.2, row', sa') := by
  obtain ⟨many', now', dn', row', sa', e⟩ := Mo_areSo_ok hP hR h (s0 ||| s1) many now dnI row sa
  refine ⟨many', now', dn', row', sa', ?_⟩
  unfold Mo_tryBells_j24
  simp only [lt]
  rw [e, Option.bind_some]
  cases FT P n rp rm (s0 ||| s1) with
  | false => rw [if_pos (show bI false = 0 from rfl), ffd_f]
  | true =>
    rw [if_neg (show ¬ bI true = 0 by decide), ffd_t]
    unfold Mo_tryBells_j50 fnd
    simp only [lt]
    by_cases c : w1 = 0
    · rw [if_pos c, if_pos c, if_pos c]
    · rw [if_neg c, if_neg c, if_neg c]
theorem m9_neg : ¬ (0 : Int32) ≤ -9 := by decide
theorem or_00 : (0 : Int64) ||| 0 = 0 := by decide
theorem or_x0 (b : Int64) : b ||| 0 = b := by
  apply bitL_ext
  intro m _
  rw [bitL_or, bitL_0, Bool.or_false]
theorem Mo_try0 (hP : pOK P) (hR : RP P law cnt kinds comes wants outs) (h : RR P n rp rm rc persons minutes) (w1 w2 w3 : Int32) (many now dnI : Int32) (row sa : Nat → Int32) :
    ∃ many' now' dn' row' sa', Mo_tryBells (-9) (-9) cnt law rc kinds comes wants outs persons minutes many now dnI w1 w2 w3 row sa = some (many', now', dn', (ffd (FT P n rp rm 0) (-9) (-9) (w1, w2, w3)).1, (ffd (FT P n rp rm 0) (-9) (-9) (w1, w2, w3)).2.1, (ffd (FT P n rp rm 0) (-9) (-9) (w1, w2, w3)).2.2, row', sa') := by
  unfold Mo_tryBells Mo_tryBells_j11
  rw [if_neg m9_neg, if_neg m9_neg]
  have e := Mo_try_ok hP hR h (-9) (-9) 0 0 w1 w2 w3 many now dnI row sa
  rw [or_00] at e
  exact e
theorem Mo_try1 (hP : pOK P) (hR : RP P law cnt kinds comes wants outs) (h : RR P n rp rm rc persons minutes) {a : Nat} (ha : a < 60) (w1 w2 w3 : Int32) (many now dnI : Int32) (row sa : Nat → Int32) :
    ∃ many' now' dn' row' sa', Mo_tryBells (nI a) (-9) cnt law rc kinds comes wants outs persons minutes many now dnI w1 w2 w3 row sa = some (many', now', dn', (ffd (FT P n rp rm (one1 a)) (nI a) (-9) (w1, w2, w3)).1, (ffd (FT P n rp rm (one1 a)) (nI a) (-9) (w1, w2, w3)).2.1, (ffd (FT P n rp rm (one1 a)) (nI a) (-9) (w1, w2, w3)).2.2, row', sa') := by
  unfold Mo_tryBells Mo_tryBells_j11
  rw [if_pos (show (0 : Int32) ≤ nI a from nI_le (Nat.zero_le a) (by omega)), if_neg m9_neg]
  have e := Mo_try_ok hP hR h (nI a) (-9) (one1 a) 0 w1 w2 w3 many now dnI row sa
  rw [or_x0] at e
  exact e
theorem Mo_try2 (hP : pOK P) (hR : RP P law cnt kinds comes wants outs) (h : RR P n rp rm rc persons minutes) {a c : Nat} (ha : a < 60) (hc : c < 60) (w1 w2 w3 : Int32) (many now dnI : Int32) (row sa : Nat → Int32) :
    ∃ many' now' dn' row' sa', Mo_tryBells (nI a) (nI c) cnt law rc kinds comes wants outs persons minutes many now dnI w1 w2 w3 row sa = some (many', now', dn', (ffd (FT P n rp rm (one1 a ||| one1 c)) (nI a) (nI c) (w1, w2, w3)).1, (ffd (FT P n rp rm (one1 a ||| one1 c)) (nI a) (nI c) (w1, w2, w3)).2.1, (ffd (FT P n rp rm (one1 a ||| one1 c)) (nI a) (nI c) (w1, w2, w3)).2.2, row', sa') := by
  unfold Mo_tryBells Mo_tryBells_j11
  rw [if_pos (show (0 : Int32) ≤ nI a from nI_le (Nat.zero_le a) (by omega)), if_pos (show (0 : Int32) ≤ nI c from nI_le (Nat.zero_le c) (by omega))]
  exact Mo_try_ok hP hR h (nI a) (nI c) (one1 a) (one1 c) w1 w2 w3 many now dnI row sa
theorem Mo_wrn_loop (hP : pOK P) (hR : RP P law cnt kinds comes wants outs) (h : RR P n rp rm rc persons minutes) (q : Int32) {a : Nat} (ha : a < 60) :
    ∀ (d c : Nat) (w1 w2 w3 : Int32) (many now dnI : Int32) (row sa : Nat → Int32), 60 = c + d →
      ∃ many' now' dn' row' sa', Mo_which_l82 q cnt law rc kinds comes wants outs persons minutes (nI a) (nI c) many now dnI w1 w2 w3 row sa = Mo_which_l72 q cnt law rc kinds comes wants outs persons minutes (nI (a + 1)) many' now' dn' (whR P n rp rm a d c (w1, w2, w3)).1 (whR P n rp rm a d c (w1, w2, w3)).2.1 (whR P n rp rm a d c (w1, w2, w3)).2.2 row' sa'
  | 0, c, w1, w2, w3, many, now, dnI, row, sa, hd => by
    rw [Mo_which_l82_eq]
    unfold Mo_which_b82
    simp only [lt]
    rw [show (60 : Int32) = nI 60 from rfl, if_pos (nI_le (by omega) (by omega)), nI_1, pu_jp, Mo_which_l72_fd]
    exact ⟨_, _, _, _, _, rfl⟩
  | d + 1, c, w1, w2, w3, many, now, dnI, row, sa, hd => by
    rw [Mo_which_l82_eq]
    unfold Mo_which_b82
    simp only [lt]
    obtain ⟨many', now', dn', row', sa', e⟩ := Mo_try2 hP hR h ha (show c < 60 by omega) w1 w2 w3 many now dnI row sa
    rw [show (60 : Int32) = nI 60 from rfl, if_neg (nI_ge (by omega) (by omega)), e, Option.bind_some, nI_1, pu_jp, Mo_which_l82_fd, whR_s]
    generalize ffd (FT P n rp rm (one1 a ||| one1 c)) (nI a) (nI c) (w1, w2, w3) = zz
    obtain ⟨z1, z2, z3⟩ := zz
    exact Mo_wrn_loop hP hR h q ha d (c + 1) z1 z2 z3 _ _ _ _ _ (by omega)
theorem Mo_wqn_loop (hP : pOK P) (hR : RP P law cnt kinds comes wants outs) (h : RR P n rp rm rc persons minutes) (q : Int32) :
    ∀ (d a : Nat) (w1 w2 w3 : Int32) (many now dnI : Int32) (row sa : Nat → Int32), 60 = a + d →
      ∃ many' now' dn' row' sa', Mo_which_l72 q cnt law rc kinds comes wants outs persons minutes (nI a) many now dnI w1 w2 w3 row sa = Mo_which_j106 q cnt law rc kinds comes wants outs persons minutes many' now' dn' (whQ P n rp rm d a (w1, w2, w3)).1 (whQ P n rp rm d a (w1, w2, w3)).2.1 (whQ P n rp rm d a (w1, w2, w3)).2.2 row' sa'
  | 0, a, w1, w2, w3, many, now, dnI, row, sa, hd => by
    rw [Mo_which_l72_eq]
    unfold Mo_which_b72
    rw [show (60 : Int32) = nI 60 from rfl, if_pos (nI_le (by omega) (by omega)), pu_ex]
    exact ⟨_, _, _, _, _, rfl⟩
  | d + 1, a, w1, w2, w3, many, now, dnI, row, sa, hd => by
    rw [Mo_which_l72_eq]
    unfold Mo_which_b72
    simp only [lt]
    rw [show (60 : Int32) = nI 60 from rfl, if_neg (nI_ge (by omega) (by omega)), nI_1, pu_jp, Mo_which_l82_fd, whQ_s]
    obtain ⟨many', now', dn', row', sa', e⟩ := Mo_wrn_loop hP hR h q (show a < 60 by omega) d (a + 1) w1 w2 w3 many now dnI row sa (by omega)
    rw [e]
    generalize whR P n rp rm a d (a + 1) (w1, w2, w3) = zz
    obtain ⟨z1, z2, z3⟩ := zz
    exact Mo_wqn_loop hP hR h q d (a + 1) z1 z2 z3 _ _ _ _ _ (by omega)
theorem Mo_wsn_loop (hP : pOK P) (hR : RP P law cnt kinds comes wants outs) (h : RR P n rp rm rc persons minutes) (q : Int32) :
    ∀ (d a : Nat) (w1 w2 w3 : Int32) (many now dnI : Int32) (row sa : Nat → Int32), 60 = a + d →
      ∃ many' now' dn' row' sa', Mo_which_l51 q cnt law rc kinds comes wants outs persons minutes (nI a) many now dnI w1 w2 w3 row sa = Mo_which_l72 q cnt law rc kinds comes wants outs persons minutes (nI 0) many' now' dn' (whS P n rp rm d a (w1, w2, w3)).1 (whS P n rp rm d a (w1, w2, w3)).2.1 (whS P n rp rm d a (w1, w2, w3)).2.2 row' sa'
  | 0, a, w1, w2, w3, many, now, dnI, row, sa, hd => by
    rw [Mo_which_l51_eq]
    unfold Mo_which_b51
    rw [show (60 : Int32) = nI 60 from rfl, if_pos (nI_le (by omega) (by omega)), pu_ex]
    exact ⟨_, _, _, _, _, rfl⟩
  | d + 1, a, w1, w2, w3, many, now, dnI, row, sa, hd => by
    rw [Mo_which_l51_eq]
    unfold Mo_which_b51
    simp only [lt]
    obtain ⟨many', now', dn', row', sa', e⟩ := Mo_try1 hP hR h (show a < 60 by omega) w1 w2 w3 many now dnI row sa
    rw [show (60 : Int32) = nI 60 from rfl, if_neg (nI_ge (by omega) (by omega)), e, Option.bind_some, nI_1, pu_jp, Mo_which_l51_fd, whS_s]
    generalize ffd (FT P n rp rm (one1 a)) (nI a) (-9) (w1, w2, w3) = zz
    obtain ⟨z1, z2, z3⟩ := zz
    exact Mo_wsn_loop hP hR h q d (a + 1) z1 z2 z3 _ _ _ _ _ (by omega)
end
theorem T_which {P : Pln} {n : Nat} {rp rm : Nat → Nat} {law cnt mlaw mcnt : Int32} {kinds comes wants outs mkinds mcomes mwants mouts : Nat → Int32} {b : Int64} {rc : Int32} {persons minutes : Nat → Int32} {rc' : Int32} {persons' minutes' : Nat → Int32} (hP : pOK P) (hR : RP P law cnt kinds comes wants outs) (hM : RP P mlaw mcnt mkinds mcomes mwants mouts) (h : RR P n rp rm rc persons minutes) (h' : RR P n rp rm rc' persons' minutes') (q : Int32) (w1 w2 w3 : Int32) (t1 t2 : Int32) (t3 : Int64) (t4 t5 : Int32) (row sa : Nat → Int32) (gl gc0 : Int32) (gb : Int64) (gk gc gw go : Nat → Int32) (tb : Nat → Int64) (many now dnI v1 v2 v3 : Int32) (row2 sa2 : Nat → Int32) :
    ∃ o o', Tq_which q law cnt b kinds comes wants outs rc persons minutes w1 w2 w3 t1 t2 t3 t4 t5 row sa gl gc0 gb gk gc gw go tb = some o ∧ Mo_which q mcnt mlaw rc' mkinds mcomes mwants mouts persons' minutes' many now dnI v1 v2 v3 row2 sa2 = some o' ∧ o.1 = o'.1 := by
  have hc := hP.2.1
  obtain ⟨o, e1, e2⟩ := Ri_findSets_ok (pb := b) hP hR h w1 w2 w3 t1 t2 t3 t4 t5 row sa gl gc0 gb gk gc gw go tb
  obtain ⟨many1, now1, dn1, row1, sa1, e3⟩ := Mo_try0 hP hM h' 0 (-9) (-9) many now dnI row2 sa2
  have m1 : ((-1 : Int64)).toInt = -1 := by decide
  have m2 : ((1 : Int64)).toInt = 1 := by decide
  have m3 : ((-1 : Int32)).toInt = -1 := by decide
  have m4 : ((1 : Int32)).toInt = 1 := by decide
  unfold Tq_which Mo_which
  by_cases c1 : q < (-1)
  · rw [if_pos c1, in_no1 (by rw [l_lt, w_int, m1]; rw [i_lt, m3] at c1; exact c1), Option.bind_some, if_pos rfl]
    exact ⟨_, _, rfl, rfl, rfl⟩
  · rw [if_neg c1]
    by_cases c2 : q ≤ 1
    · rw [if_pos c2, in_yes (by rw [l_lt, w_int, m1]; rw [i_lt, m3] at c1; exact c1) (by rw [l_lt, w_int, m2]; rw [i_le, m4] at c2; omega), Option.bind_some, if_neg one_ne0]
      obtain ⟨rfl, rfl, -⟩ := id hR
      obtain ⟨rfl, rfl, -⟩ := id hM
      rcases none_cases hc with ⟨c0, h3, h4⟩ | ⟨c0, h3, h4⟩
      · rw [h3, if_pos h4, Option.bind_some, if_neg one_ne0]
        exact ⟨_, _, rfl, rfl, rfl⟩
      · rw [h3, if_neg h4, Option.bind_some, if_pos rfl, e1, e3, Option.bind_some, Option.bind_some]
        generalize ffd (FT P n rp rm 0) (-9) (-9) (0, -9, -9) = z0 at e2
        obtain ⟨x1, x2, x3⟩ := z0
        obtain ⟨many2, now2, dn2, row3, sa3, e4⟩ := Mo_wsn_loop hP hM h' q 60 0 x1 x2 x3 many1 now1 dn1 row1 sa1 (by omega)
        have e4 : Mo_which_l51 q (nI (pCnt P)) (nI (pLaw P)) rc' mkinds mcomes mwants mouts persons' minutes' 0 many1 now1 dn1 x1 x2 x3 row1 sa1 = _ := e4
        dsimp only
        rw [e4]
        generalize whS P n rp rm 60 0 (x1, x2, x3) = z0 at e2
        obtain ⟨x1, x2, x3⟩ := z0
        obtain ⟨many4, now4, dn4, row4, sa4, e5⟩ := Mo_wqn_loop hP hM h' q 60 0 x1 x2 x3 many2 now2 dn2 row3 sa3 (by omega)
        dsimp only
        rw [e5]
        generalize whQ P n rp rm 60 0 (x1, x2, x3) = z0 at e2
        subst e2
        unfold Mo_which_j106
        rw [i_lt, m3] at c1
        by_cases d1 : q = -1
        · rw [if_pos d1, if_neg (show ¬ 0 ≤ q by rw [d1]; decide)]
          exact ⟨_, _, rfl, rfl, rfl⟩
        · have d2 : (0 : Int32) ≤ q := by
            rw [i_le]
            have : ¬ q.toInt = -1 := fun z => d1 (Int32.toInt_inj.mp (z.trans m3.symm))
            have m5 : ((0 : Int32)).toInt = 0 := by decide
            omega
          rw [if_neg d1, if_pos d2]
          by_cases d3 : q = 0
          · rw [if_pos d3, if_pos d3]
            exact ⟨_, _, rfl, rfl, rfl⟩
          · rw [if_neg d3, if_neg d3]
            exact ⟨_, _, rfl, rfl, rfl⟩
    · rw [if_neg c2, in_no2 (by rw [l_lt, w_int, m2]; rw [i_le, m4] at c2; omega), Option.bind_some, if_pos rfl]
      exact ⟨_, _, rfl, rfl, rfl⟩

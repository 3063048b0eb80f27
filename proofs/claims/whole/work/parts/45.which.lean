/-! ===== which bells there were ===== -/
/-- the readings: how many, of whom, when -/
def RR (P : Pln) (n : Nat) (rp rm : Nat → Nat) (cnt : Int32) (persons minutes : Nat → Int32) : Prop := cnt = nI n ∧ n ≤ 8 ∧ ∀ k, k < n → persons k = nI (rp k) ∧ rp k < pCnt P ∧ minutes k = nI (rm k) ∧ rm k < 200
def fit (P : Pln) (rp rm : Nat → Nat) (b : Int64) : Nat → Nat → Bool
  | 0, _ => true
  | d + 1, i => decide (SV P b (rp i) = rm i) && fit P rp rm b d (i + 1)
theorem fit_s (P : Pln) (rp rm : Nat → Nat) (b : Int64) (d i : Nat) : fit P rp rm b (d + 1) i = (decide (SV P b (rp i) = rm i) && fit P rp rm b d (i + 1)) := rfl
def FT (P : Pln) (n : Nat) (rp rm : Nat → Nat) (b : Int64) : Bool := fit P rp rm b n 0
theorem fit_same {P : Pln} {rp rm : Nat → Nat} {b b' : Int64} : ∀ (d i : Nat), (∀ k, i ≤ k → k < i + d → SV P b (rp k) = SV P b' (rp k)) → fit P rp rm b d i = fit P rp rm b' d i
  | 0, _, _ => rfl
  | d + 1, i, h => by
    rw [fit_s, fit_s, h i (Nat.le_refl i) (by omega), fit_same d (i + 1) (fun k h1 h2 => h k (by omega) (by omega))]
/-- the minutes at which a bell would have turned something, as far as the run went -/
def TNi (P : Pln) (n : Nat) (rp : Nat → Nat) (b tn : Int64) : Prop :=
  ∃ M, M ≤ 200 ∧ (M = 200 ∨ ∀ k, k < n → (dayAt P (allW P) (bellF b) M).2.2.2 (rp k) ≠ none) ∧ ∀ k, k < 60 → (bitL tn k = true ↔ k < M ∧ 1 < (preQ P (allW P) k (dayAt P (allW P) (bellF b) k).1).length)
theorem day_from {P : Pln} {who f g : Nat → Bool} {i : Nat} (h0 : dayAt P who f i = dayAt P who g i) : ∀ d, (∀ m, i ≤ m → m < i + d → f m = g m) → dayAt P who f (i + d) = dayAt P who g (i + d)
  | 0, _ => h0
  | d + 1, h => by
    show stepD P who f (i + d) (dayAt P who f (i + d)) = stepD P who g (i + d) (dayAt P who g (i + d))
    rw [day_from h0 d (fun m h1 h2 => h m h1 (by omega))]
    unfold stepD belQ
    rw [h (i + d) (by omega) (by omega)]
/-- a bell that would have turned nothing changes nothing -/
theorem no_turn {P : Pln} (hP : pOK P) {n : Nat} {rp : Nat → Nat} {b tn : Int64} (hT : TNi P n rp b tn) {k : Nat} (hk : k < 60) (hb : ¬ bitL tn k = true) {f g : Nat → Bool} (h1 : ∀ m, m < k → f m = bellF b m) (h2 : ∀ m, m < k → g m = bellF b m) (h3 : ∀ m, m ≠ k → f m = g m) : ∀ j, j < n → servedT P (allW P) f (rp j) = servedT P (allW P) g (rp j) := by
  intro j hj
  obtain ⟨M, hM, hE, hQ⟩ := hT
  have e1 : ∀ i, i ≤ k → dayAt P (allW P) f i = dayAt P (allW P) (bellF b) i := fun i hi => day_same i (fun m hm => h1 m (by omega))
  have e2 : ∀ i, i ≤ k → dayAt P (allW P) g i = dayAt P (allW P) (bellF b) i := fun i hi => day_same i (fun m hm => h2 m (by omega))
  rcases Nat.lt_or_ge k M with c | c
  · have hlen : (preQ P (allW P) k (dayAt P (allW P) (bellF b) k).1).length ≤ 1 := by
      rcases Nat.lt_or_ge 1 (preQ P (allW P) k (dayAt P (allW P) (bellF b) k).1).length with z | z
      · exact absurd ((hQ k hk).mpr ⟨c, z⟩) hb
      · exact z
    have es : ∀ h : Nat → Bool, dayAt P (allW P) h k = dayAt P (allW P) (bellF b) k → belQ P h k (preQ P (allW P) k (dayAt P (allW P) h k).1) = preQ P (allW P) k (dayAt P (allW P) (bellF b) k).1 := by
      intro h eh
      rw [eh]
      unfold belQ
      rw [turnQ_short hlen]
      by_cases z : h k = true
      · rw [if_pos z]
      · rw [if_neg z]
    have ek : dayAt P (allW P) f (k + 1) = dayAt P (allW P) g (k + 1) := by
      show stepD P (allW P) f k (dayAt P (allW P) f k) = stepD P (allW P) g k (dayAt P (allW P) g k)
      unfold stepD
      rw [es f (e1 k (Nat.le_refl k)), es g (e2 k (Nat.le_refl k)), e1 k (Nat.le_refl k), e2 k (Nat.le_refl k)]
    have e200 : dayAt P (allW P) f 200 = dayAt P (allW P) g 200 := by
      have := day_from ek (199 - k) (fun m q1 q2 => h3 m (by omega))
      rw [show k + 1 + (199 - k) = 200 by omega] at this
      exact this
    unfold servedT
    rw [e200]
  · have hE : ∀ i, i < n → (dayAt P (allW P) (bellF b) M).2.2.2 (rp i) ≠ none := hE.resolve_left (by omega)
    cases hs : (dayAt P (allW P) (bellF b) M).2.2.2 (rp j) with
    | none => exact absurd hs (hE j hj)
    | some t =>
      rw [servedT_at hP hM (show (dayAt P (allW P) f M).2.2.2 (rp j) = some t by rw [e1 M c]; exact hs), servedT_at hP hM (show (dayAt P (allW P) g M).2.2.2 (rp j) = some t by rw [e2 M c]; exact hs)]
theorem bell_one {a m : Nat} (ha : a < 60) : bellF (one1 a) m = decide (m = a) := by
  unfold bellF
  rw [show bitL (one1 a) m = decide (m = a) from bitL_one (by omega)]
  by_cases c : m = a
  · subst c; simp [ha]
  · simp [c]
theorem bell_two {a c m : Nat} (ha : a < 60) (hc : c < 60) : bellF (one1 a ||| one1 c) m = (decide (m = a) || decide (m = c)) := by
  unfold bellF
  rw [bitL_or, show bitL (one1 a) m = decide (m = a) from bitL_one (by omega), show bitL (one1 c) m = decide (m = c) from bitL_one (by omega)]
  by_cases z1 : m = a
  · subst z1; simp [ha]
  · by_cases z2 : m = c
    · subst z2; simp [hc]
    · simp [z1, z2]
theorem bell_0 (m : Nat) : bellF 0 m = false := by
  unfold bellF
  rw [bitL_0, Bool.and_false]
section
variable {P : Pln} {n : Nat} {rp rm : Nat → Nat} {tn : Int64}
theorem FT_one (hP : pOK P) (hT : TNi P n rp 0 tn) {a : Nat} (ha : a < 60) (hb : ¬ bitL tn a = true) : FT P n rp rm (one1 a) = FT P n rp rm 0 := by
  refine fit_same n 0 (fun k _ hk => ?_)
  exact no_turn hP hT ha hb (fun m hm => by rw [bell_one ha, bell_0, decide_eq_false (by omega)]) (fun m _ => rfl) (fun m hm => by rw [bell_one ha, bell_0, decide_eq_false hm]) k (by omega)
theorem FT_two1 (hP : pOK P) (hT : TNi P n rp 0 tn) {a c : Nat} (ha : a < c) (hc : c < 60) (hb : ¬ bitL tn a = true) : FT P n rp rm (one1 a ||| one1 c) = FT P n rp rm (one1 c) := by
  refine fit_same n 0 (fun k _ hk => ?_)
  exact no_turn hP hT (show a < 60 by omega) hb (fun m hm => by rw [bell_two (by omega) hc, bell_0, decide_eq_false (by omega), decide_eq_false (by omega)]; rfl) (fun m hm => by rw [bell_one hc, bell_0, decide_eq_false (by omega)]) (fun m hm => by rw [bell_two (by omega) hc, bell_one hc, decide_eq_false hm, Bool.false_or]) k (by omega)
theorem FT_two2 (hP : pOK P) {a c : Nat} (hT : TNi P n rp (one1 a) tn) (ha : a < c) (hc : c < 60) (hb : ¬ bitL tn c = true) : FT P n rp rm (one1 a ||| one1 c) = FT P n rp rm (one1 a) := by
  refine fit_same n 0 (fun k _ hk => ?_)
  exact no_turn hP hT hc hb (fun m hm => by rw [bell_two (by omega) hc, bell_one (by omega), decide_eq_false (show ¬ m = c by omega), Bool.or_false]) (fun m _ => rfl) (fun m hm => by rw [bell_two (by omega) hc, bell_one (by omega), decide_eq_false hm, Bool.or_false]) k (by omega)
end
/-! the readings in the machine -/
section
variable {P : Pln} {n : Nat} {rp rm : Nat → Nat} {cnt : Int32} {persons minutes : Nat → Int32}
theorem who_loop (hP : pOK P) (h : RR P n rp rm cnt persons minutes) : ∀ (d i a : Nat), n = i + d → a < 128 → ∃ a', a' < 128 ∧ Re_whoAreRead_l4 (nI n) persons (nI a) (nI i) = some (nI a') ∧ ∀ k, k < n → i ≤ k → a'.testBit (rp k) = true ∧ True
  | 0, i, a, hd, ha => by
    refine ⟨a, ha, ?_, fun k h1 h2 => by omega⟩
    rw [Re_whoAreRead_l4_eq]
    unfold Re_whoAreRead_b4
    have := h.2.1
    rw [if_pos (nI_le (by omega) (by omega)), pu_rt]
  | d + 1, i, a, hd, ha => by
    have h8 := h.2.1
    have hc := hP.2.1
    obtain ⟨q1, q2, -, -⟩ := h.2.2 i (by omega)
    have hmono : ∀ (d i a : Nat), n = i + d → a < 128 → ∀ a', Re_whoAreRead_l4 (nI n) persons (nI a) (nI i) = some (nI a') → a' < 128 → ∀ j, a.testBit j = true → a'.testBit j = true := by
      intro d
      induction d with
      | zero =>
        intro i a hd ha a' e ha' j hj
        rw [Re_whoAreRead_l4_eq] at e
        unfold Re_whoAreRead_b4 at e
        rw [if_pos (nI_le (by omega) (by omega)), pu_rt] at e
        have := (nI_eq (by omega) (by omega)).mp (Option.some.inj e)
        rw [← this]; exact hj
      | succ d ih =>
        intro i a hd ha a' e ha' j hj
        obtain ⟨q1, q2, -, -⟩ := h.2.2 i (by omega)
        rw [Re_whoAreRead_l4_eq] at e
        unfold Re_whoAreRead_b4 at e
        simp only [lt] at e
        rw [if_neg (nI_ge (by omega) (by omega)), if_pos (ck_nI (by omega) (by omega)), nI_clamp (by omega), q1, or_ok a ha (rp i) (by omega), nI_1, pu_jp, Re_whoAreRead_l4_fd] at e
        refine ih (i + 1) _ (by omega) (or_bit a ha (rp i) (by omega)).1 a' e ha' j ?_
        rcases Nat.lt_or_ge j 8 with z | z
        · rw [(or_bit a ha (rp i) (by omega)).2 j z, hj]; rfl
        · rw [small_bit (by omega) z] at hj; cases hj
    obtain ⟨a', r1, r2, r3⟩ := who_loop hP h d (i + 1) (a ||| 2 ^ rp i) (by omega) (or_bit a ha (rp i) (by omega)).1
    refine ⟨a', r1, ?_, fun k h1 h2 => ?_⟩
    · rw [Re_whoAreRead_l4_eq]
      unfold Re_whoAreRead_b4
      simp only [lt]
      rw [if_neg (nI_ge (by omega) (by omega)), if_pos (ck_nI (by omega) (by omega)), nI_clamp (by omega), q1, or_ok a ha (rp i) (by omega), nI_1, pu_jp, Re_whoAreRead_l4_fd]
      exact r2
    · by_cases z : k = i
      · subst z
        refine ⟨?_, trivial⟩
        refine hmono d (k + 1) (a ||| 2 ^ rp k) (by omega) (or_bit a ha (rp k) (by omega)).1 a' r2 r1 (rp k) ?_
        rw [(or_bit a ha (rp k) (by omega)).2 (rp k) (by omega)]
        simp
      · exact r3 k h1 (by omega)
theorem who_ok2 (hP : pOK P) (h : RR P n rp rm cnt persons minutes) : ∃ a, a < 128 ∧ Re_whoAreRead cnt persons = some (nI a) ∧ ∀ k, k < n → a.testBit (rp k) = true := by
  obtain ⟨a, r1, r2, r3⟩ := who_loop hP h n 0 0 (by omega) (by omega)
  refine ⟨a, r1, ?_, fun k hk => (r3 k hk (Nat.zero_le k)).1⟩
  unfold Re_whoAreRead
  rw [h.1]
  exact r2
theorem so_loop (hP : pOK P) (h : RR P n rp rm cnt persons minutes) {b : Int64} {sa : Nat → Int32} (hs : ∀ k, k < n → sa (rp k) = nI (SV P b (rp k))) : ∀ (d i : Nat), n = i + d → Re_areSo_l2 (nI n) persons minutes sa (nI i) = some (bI (fit P rp rm b d i))
  | 0, i, hd => by
    have h8 := h.2.1
    rw [Re_areSo_l2_eq]
    unfold Re_areSo_b2
    rw [if_pos (nI_le (by omega) (by omega)), pu_rt]
    rfl
  | d + 1, i, hd => by
    have h8 := h.2.1
    have hc := hP.2.1
    obtain ⟨q1, q2, q3, q4⟩ := h.2.2 i (by omega)
    have hv := (SV_ge hP b q2).2
    rw [Re_areSo_l2_eq]
    unfold Re_areSo_b2
    simp only [lt]
    rw [if_neg (nI_ge (by omega) (by omega)), if_pos (ck_nI (by omega) (by omega)), nI_clamp (by omega), q1, if_pos (ck_nI (by omega) (by omega)), if_pos (ck_nI (by omega) (by omega)), nI_clamp (by omega), hs i (by omega), q3, fit_s]
    by_cases c : SV P b (rp i) = rm i
    · rw [if_pos (by rw [c]), nI_1, pu_jp, Re_areSo_l2_fd, decide_eq_true c, Bool.true_and]
      exact so_loop hP h hs d (i + 1) (by omega)
    · rw [if_neg (by rw [nI_eq (by omega) (by omega)]; exact c), pu_rt, decide_eq_false c, Bool.false_and]
      rfl
theorem bI_and (x : Bool) : bI x &&& 1 = bI x := by cases x <;> decide
theorem Ri_fits_ok {law pc : Int32} {kinds comes wants outs : Nat → Int32} (hP : pOK P) (hR : RP P law pc kinds comes wants outs) (h : RR P n rp rm cnt persons minutes) (b : Int64) (t1 t2 : Int32) (t3 : Int64) (t4 t5 : Int32) (row sa : Nat → Int32) (gb : Int64) :
    ∃ o, Ri_fits b law pc kinds comes wants outs cnt persons minutes t1 t2 t3 t4 t5 row sa gb = some o ∧ o.1 = bI (FT P n rp rm b) ∧ TNi P n rp b o.2.2.2.1 := by
  have hc := hP.2.1
  have h128 := pow7 hc
  obtain ⟨a, r1, r2, r3⟩ := who_ok2 hP h
  obtain ⟨M, sv', aw', tn', dn', sz', row', sa', g1, g2, g3, g4⟩ := Co_run_ok (s := 2 ^ pCnt P - 1) (tf := a) (L := 199) (b := b) hP hR (by omega) (by omega) (by omega) t1 t2 t3 t4 t5 row sa
  have hf : ∀ k, k < n → sa' (rp k) = nI (SV P b (rp k)) := fun k hk => run_found hP (by omega) g3 (g4.imp (fun z => z) id) (h.2.2 k hk).2.1 (all_bit (h.2.2 k hk).2.1) (r3 k hk)
  unfold Ri_fits
  rw [hR.2.1, ever_ok hc, r2]
  simp only [Option.bind_some]
  rw [← hR.2.1, show (199 : Int32) = nI 199 from rfl, g2]
  simp only [Option.bind_some]
  unfold Re_areSo
  have e := so_loop hP h hf n 0 (by omega)
  have e : Re_areSo_l2 (nI n) persons minutes sa' 0 = some (bI (FT P n rp rm b)) := e
  rw [h.1, e]
  simp only [Option.bind_some]
  rw [if_pos (bI_and _)]
  refine ⟨_, rfl, rfl, ?_⟩
  show TNi P n rp b tn'
  refine ⟨M, g1, ?_, fun k hk => ?_⟩
  · rcases g4 with z | z
    · exact Or.inl z
    · refine Or.inr (fun k hk hn => ?_)
      obtain ⟨⟨-, -, -, -, -, w, h6, h7, h8⟩, -⟩ := g3
      have hw : w = 0 := by
        rw [z, li0] at h7
        exact ((nI_eq (by omega) (by omega)).mp h7).symm
      have h9 := h8 (rp k) (by have := (h.2.2 k hk).2.1; omega)
      have hn : (dayAt P (2 ^ pCnt P - 1).testBit (bellF b) M).2.2.2 (rp k) = none := hn
      rw [hw, Nat.zero_testBit, r3 k hk, hn] at h9
      cases h9
  · rw [g3.2 k (by omega)]
    exact ⟨fun z => ⟨z.1, z.2.2⟩, fun z => ⟨z.1, hk, z.2⟩⟩
end

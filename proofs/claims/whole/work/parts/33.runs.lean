/-! ===== the class's counter goes as the day goes ===== -/
def oI : Option Nat → Int32
  | none => -9
  | some m => nI m
theorem neg9 {m : Nat} (h : m < 2 ^ 31) : ¬ (-9 : Int32) = nI m := by
  intro e
  have := congrArg Int32.toInt e
  rw [nI_toInt h] at this
  have h9 : (-9 : Int32).toInt = -9 := by decide
  omega
theorem oI_eq {o : Option Nat} {m : Nat} (h : m < 2 ^ 31) (ho : ∀ k, o = some k → k < 2 ^ 31) : oI o = nI m ↔ o = some m := by
  cases o with
  | none => exact ⟨fun e => absurd e (neg9 h), fun e => by cases e⟩
  | some k =>
    show nI k = nI m ↔ _
    rw [nI_eq (ho k rfl) h]
    exact ⟨fun e => by rw [e], fun e => Option.some.inj e⟩
theorem oI_none {o : Option Nat} (ho : ∀ k, o = some k → k < 2 ^ 31) : oI o = -9 ↔ o = none := by
  cases o with
  | none => exact ⟨fun _ => rfl, fun _ => rfl⟩
  | some k =>
    show nI k = -9 ↔ _
    exact ⟨fun e => absurd e.symm (neg9 (ho k rfl)), fun e => by cases e⟩
def RP (P : Pln) (law cnt : Int32) (kinds comes wants outs : Nat → Int32) : Prop :=
  law = nI (pLaw P) ∧ cnt = nI (pCnt P) ∧ Rn kinds (pKd P) (pCnt P) ∧ Rn comes (pCm P) (pCnt P) ∧ Rn wants (pWt P) (pCnt P) ∧ ∀ p, p < pCnt P → outs p = oI (pOt P p)
section
variable {P : Pln} {kinds comes wants outs : Nat → Int32}
theorem Co_ro_loop (hP : pOK P) (ho : ∀ p, p < pCnt P → outs p = oI (pOt P p)) {m : Nat} (hm : m < 2 ^ 31) : ∀ (d i : Nat) (q : List Nat) (a : Nat → Int32), pCnt P = i + d → Rq a q → q.Nodup → (∀ x ∈ q, x < pCnt P) → ∃ a', Co_letRunOut_l2 (nI m) (nI (pCnt P)) outs (nI i) (nI q.length) a = some (nI (roQ P m d i q).length, a') ∧ Rq a' (roQ P m d i q)
  | 0, i, q, a, hd, ha, hn, hx => by
    refine ⟨a, ?_, ha⟩
    rw [Co_letRunOut_l2_eq]
    unfold Co_letRunOut_b2
    rw [if_pos (nI_le (by omega) (by have := hP.2.1; omega)), pu_rt]
    rfl
  | d + 1, i, q, a, hd, ha, hn, hx => by
    have h7 := hP.2.1
    have hlen := nd_len hn hx
    have hi : i < pCnt P := by omega
    have hob : ∀ k, pOt P i = some k → k < 2 ^ 31 := fun k e => by have := (hP.2.2 i hi).2.2.2.2 k e; omega
    rw [Co_letRunOut_l2_eq]
    unfold Co_letRunOut_b2
    rw [if_neg (nI_ge (by omega) (by omega)), if_pos (ck_nI (by omega) (by omega)), nI_clamp (by omega), ho i hi]
    show ∃ a', _ = some (nI (roQ P m d (i + 1) (roS P m q i)).length, a') ∧ Rq a' (roQ P m d (i + 1) (roS P m q i))
    by_cases c : pOt P i = some m
    · rw [if_pos ((oI_eq hm hob).mpr c)]
      rcases Li_placeOf_ok ha (by omega) (fun x h => by have := hx x h; omega) (show i < 7 by omega) with ⟨hni, e⟩ | ⟨k, hk, e⟩
      · have er : roS P m q i = q := by unfold roS; rw [if_neg (fun z => hni z.2)]
        rw [e, er]
        simp only [Option.bind_some, if_true, lt, pu_jp, Co_letRunOut_l2_fd, nI_1]
        exact Co_ro_loop hP ho hm d (i + 1) q a (by omega) ha hn hx
      · have hkl : k < q.length := (List.getElem?_eq_some_iff.mp hk).1
        obtain ⟨a1, e1, r1⟩ := Li_remove_ok ha hk (by omega)
        have hl1 : (q.eraseIdx k).length = q.length - 1 := List.length_eraseIdx_of_lt hkl
        obtain ⟨a2, e2, r2⟩ := Li_insert_ok (k := (q.eraseIdx k).length) (p := i) r1 (Nat.le_refl _) (by omega)
        have er : roS P m q i = (q.eraseIdx k).insertIdx (q.eraseIdx k).length i := by
          unfold roS
          rw [if_pos ⟨c, List.mem_of_getElem? hk⟩, List.insertIdx_length_self, eraseIdx_filter hn hk]
        rw [e, er]
        simp only [Option.bind_some]
        rw [if_neg (fun z => neg9 (by omega) z.symm), e1]
        simp only [Option.bind_some]
        rw [e2]
        simp only [Option.bind_some, lt, pu_jp, Co_letRunOut_l2_fd, nI_1]
        rw [← er] at r2 ⊢
        exact Co_ro_loop hP ho hm d (i + 1) (roS P m q i) a2 (by omega) r2 (roS_nd hn) (fun x h => hx x (roS_mem.mp h))
    · have er : roS P m q i = q := by unfold roS; rw [if_neg (fun z => c z.1)]
      rw [if_neg (fun z => c ((oI_eq hm hob).mp z)), er]
      simp only [lt, pu_jp, Co_letRunOut_l2_fd, nI_1]
      exact Co_ro_loop hP ho hm d (i + 1) q a (by omega) ha hn hx
theorem Co_letRunOut_ok (hP : pOK P) (ho : ∀ p, p < pCnt P → outs p = oI (pOt P p)) {m : Nat} (hm : m < 2 ^ 31) {q : List Nat} {a : Nat → Int32} (ha : Rq a q) (hn : q.Nodup) (hx : ∀ x ∈ q, x < pCnt P) : ∃ a', Co_letRunOut (nI m) (nI (pCnt P)) outs (nI q.length) a = some (nI (roQ P m (pCnt P) 0 q).length, a') ∧ Rq a' (roQ P m (pCnt P) 0 q) :=
  Co_ro_loop hP ho hm (pCnt P) 0 q a (by omega) ha hn hx
theorem Co_co_loop (hP : pOK P) (hk : Rn kinds (pKd P) (pCnt P)) (hc : Rn comes (pCm P) (pCnt P)) {s : Nat} (hs : s < 128) {m : Nat} (hm : m < 2 ^ 31) : ∀ (d i : Nat) (q : List Nat) (a : Nat → Int32), pCnt P = i + d → Rq a q → q.Nodup → (∀ x ∈ q, x < pCnt P) → (∀ x ∈ q, pCm P x = m → s.testBit x = true → x < i) → ∃ a', Co_letCome_l3 (nI s) (nI m) (nI (pCnt P)) kinds comes (nI i) (nI q.length) a = some (nI (coQ P s.testBit m d i q).length, a') ∧ Rq a' (coQ P s.testBit m d i q)
  | 0, i, q, a, hd, ha, hn, hx, hy => by
    refine ⟨a, ?_, ha⟩
    rw [Co_letCome_l3_eq]
    unfold Co_letCome_b3
    rw [if_pos (nI_le (by omega) (by have := hP.2.1; omega)), pu_rt]
    rfl
  | d + 1, i, q, a, hd, ha, hn, hx, hy => by
    have h7 := hP.2.1
    have hlen := nd_len hn hx
    have hi : i < pCnt P := by omega
    have hcb := (hP.2.2 i hi).2.1
    rw [Co_letCome_l3_eq]
    unfold Co_letCome_b3
    rw [if_neg (nI_ge (by omega) (by omega)), if_pos (ck_nI (by omega) (by omega)), nI_clamp (by omega), hc i hi]
    show ∃ a', _ = some (nI (coQ P s.testBit m d (i + 1) (coS P s.testBit m q i)).length, a') ∧ Rq a' (coQ P s.testBit m d (i + 1) (coS P s.testBit m q i))
    by_cases c : pCm P i = m
    · rw [if_pos (by rw [c]), hasPer_ok (by omega) (by omega)]
      simp only [Option.bind_some]
      by_cases w : s.testBit i = true
      · rw [if_pos w, if_neg (by decide), Co_placeToStand_ok ha (by omega) h7 hx hk (fun j hj => (hP.2.2 j hj).1) hi]
        simp only [Option.bind_some]
        have hni : i ∉ q := fun z => absurd (hy i z c w) (Nat.lt_irrefl i)
        have hl2 : q.length + 1 ≤ pCnt P := by
          have := nd_len (List.nodup_cons.mpr ⟨hni, hn⟩) (n := pCnt P) (fun x h => by
            rcases List.mem_cons.mp h with e | e
            · rw [e]; exact hi
            · exact hx x e)
          rw [List.length_cons] at this
          exact this
        obtain ⟨a1, e1, r1⟩ := Li_insert_ok (p := i) ha (placeQ_le (pKd P) q i) (by omega)
        have er : coS P s.testBit m q i = q.insertIdx (placeQ (pKd P) q i) i := by unfold coS; rw [if_pos ⟨c, w⟩]
        rw [e1]
        simp only [Option.bind_some, lt, pu_jp, Co_letCome_l3_fd, nI_1]
        rw [← er] at r1 ⊢
        refine Co_co_loop hP hk hc hs hm d (i + 1) _ a1 (by omega) r1 (coS_nd hn hni) ?_ ?_
        · intro x h
          rcases coS_mem.mp h with e | e
          · exact hx x e
          · rw [e.1]; exact hi
        · intro x h h1 h2
          rcases coS_mem.mp h with e | e
          · have := hy x e h1 h2; omega
          · omega
      · have er : coS P s.testBit m q i = q := by unfold coS; rw [if_neg (fun z => w z.2)]
        rw [if_neg w, if_pos rfl, er]
        simp only [lt, pu_jp, Co_letCome_l3_fd, nI_1]
        exact Co_co_loop hP hk hc hs hm d (i + 1) q a (by omega) ha hn hx (fun x h h1 h2 => by have := hy x h h1 h2; omega)
    · have er : coS P s.testBit m q i = q := by unfold coS; rw [if_neg (fun z => c z.1)]
      rw [if_neg (fun z => c ((nI_eq (by omega) hm).mp z)), er]
      simp only [lt, pu_jp, Co_letCome_l3_fd, nI_1]
      exact Co_co_loop hP hk hc hs hm d (i + 1) q a (by omega) ha hn hx (fun x h h1 h2 => by have := hy x h h1 h2; omega)
theorem Co_mv_loop (hP : pOK P) (hc : Rn comes (pCm P) (pCnt P)) (ho : ∀ p, p < pCnt P → outs p = oI (pOt P p)) : ∀ (d i : Nat) (b : Int64), pCnt P = i + d → ∃ b', Co_movesOf_l4 (nI (pCnt P)) comes outs b (nI i) = some b' ∧ ∀ m, m < 64 → (bitL b' m = true ↔ bitL b m = true ∨ ∃ p, i ≤ p ∧ p < pCnt P ∧ (pCm P p = m ∨ pOt P p = some m))
  | 0, i, b, hd => by
    refine ⟨b, ?_, fun m hm => ⟨Or.inl, fun h => h.elim id (fun ⟨p, h1, h2, _⟩ => by omega)⟩⟩
    rw [Co_movesOf_l4_eq]
    unfold Co_movesOf_b4
    rw [if_pos (nI_le (by omega) (by have := hP.2.1; omega)), pu_rt]
  | d + 1, i, b, hd => by
    have h7 := hP.2.1
    have hi : i < pCnt P := by omega
    have hcb := (hP.2.2 i hi).2.1
    have hob := (hP.2.2 i hi).2.2.2.2
    rw [Co_movesOf_l4_eq]
    unfold Co_movesOf_b4
    rw [if_neg (nI_ge (by omega) (by omega)), if_pos (ck_nI (by omega) (by omega)), nI_clamp (by omega), hc i hi, ho i hi]
    cases e : pOt P i with
    | none =>
      rw [show oI none = -9 from rfl]
      simp only [lt, if_pos (ck_nI (show i < 7 by omega) (by omega)), if_true, pu_jp, Co_movesOf_l4_fd, nI_1]
      obtain ⟨b', h1, h2⟩ := Co_mv_loop hP hc ho d (i + 1) (b ||| ((1 : Int64) <<< ((nI (pCm P i)).toInt64 &&& 63))) (by omega)
      refine ⟨b', h1, fun m hm => ?_⟩
      rw [h2 m hm, bitL_or, bitL_one (by omega), Bool.or_eq_true, decide_eq_true_iff]
      constructor
      · rintro ((h | h) | ⟨p, q1, q2, q3⟩)
        · exact Or.inl h
        · exact Or.inr ⟨i, Nat.le_refl i, hi, Or.inl h.symm⟩
        · exact Or.inr ⟨p, by omega, q2, q3⟩
      · rintro (h | ⟨p, q1, q2, q3⟩)
        · exact Or.inl (Or.inl h)
        · by_cases c : p = i
          · subst c
            rcases q3 with q3 | q3
            · exact Or.inl (Or.inr q3.symm)
            · rw [e] at q3; cases q3
          · exact Or.inr ⟨p, by omega, q2, q3⟩
    | some k =>
      have hk : k < 60 := hob k e
      rw [show oI (some k) = nI k from rfl]
      simp only [lt, if_pos (ck_nI (show i < 7 by omega) (by omega)), if_neg (fun z : nI k = -9 => neg9 (by omega) z.symm), pu_jp, Co_movesOf_l4_fd, nI_1]
      obtain ⟨b', h1, h2⟩ := Co_mv_loop hP hc ho d (i + 1) (b ||| ((1 : Int64) <<< ((nI (pCm P i)).toInt64 &&& 63)) ||| ((1 : Int64) <<< ((nI k).toInt64 &&& 63))) (by omega)
      refine ⟨b', h1, fun m hm => ?_⟩
      rw [h2 m hm, bitL_or, bitL_or, bitL_one (by omega), bitL_one (by omega), Bool.or_eq_true, Bool.or_eq_true, decide_eq_true_iff, decide_eq_true_iff]
      constructor
      · rintro (((h | h) | h) | ⟨p, q1, q2, q3⟩)
        · exact Or.inl h
        · exact Or.inr ⟨i, Nat.le_refl i, hi, Or.inl h.symm⟩
        · exact Or.inr ⟨i, Nat.le_refl i, hi, Or.inr (by rw [e, h])⟩
        · exact Or.inr ⟨p, by omega, q2, q3⟩
      · rintro (h | ⟨p, q1, q2, q3⟩)
        · exact Or.inl (Or.inl (Or.inl h))
        · by_cases c : p = i
          · subst c
            rcases q3 with q3 | q3
            · exact Or.inl (Or.inl (Or.inr q3.symm))
            · rw [e] at q3
              exact Or.inl (Or.inr (Option.some.inj q3).symm)
          · exact Or.inr ⟨p, by omega, q2, q3⟩
theorem Co_movesOf_ok (hP : pOK P) (hc : Rn comes (pCm P) (pCnt P)) (ho : ∀ p, p < pCnt P → outs p = oI (pOt P p)) : ∃ b', Co_movesOf (nI (pCnt P)) comes outs = some b' ∧ ∀ m, m < 64 → (bitL b' m = true ↔ ∃ p, p < pCnt P ∧ (pCm P p = m ∨ pOt P p = some m)) := by
  obtain ⟨b', h1, h2⟩ := Co_mv_loop hP hc ho (pCnt P) 0 0 (by omega)
  refine ⟨b', h1, fun m hm => ?_⟩
  rw [h2 m hm, bitL_0]
  constructor
  · rintro (h | ⟨p, -, q2, q3⟩)
    · cases h
    · exact ⟨p, q2, q3⟩
  · rintro ⟨p, q2, q3⟩
    exact Or.inr ⟨p, Nat.zero_le p, q2, q3⟩
end
/-- the counter's cells hold a day's state; of those awaited the ones who are not served -/
def RX (tf : Nat) (S : Dst) (serving awaited doneAt size : Int32) (row servedAt : Nat → Int32) : Prop :=
  size = nI S.1.length ∧ Rq row S.1 ∧ serving = oI S.2.1 ∧ (S.2.1 ≠ none → doneAt = nI S.2.2.1) ∧ (∀ p t, S.2.2.2 p = some t → servedAt p = nI t) ∧ ∃ aw, aw < 256 ∧ awaited = nI aw ∧ ∀ j, j < 8 → aw.testBit j = (tf.testBit j && (S.2.2.2 j).isNone)
def bellF (b : Int64) : Nat → Bool := fun m => decide (m < 60) && bitL b m
theorem bellF_eq {b : Int64} {m : Nat} : bellF b m = true ↔ m < 60 ∧ bitL b m = true := by
  unfold bellF
  rw [Bool.and_eq_true, decide_eq_true_iff]
section
variable {P : Pln} {kinds comes wants outs : Nat → Int32} {s tf m : Nat} {last tfI : Int32} {b mv tn : Int64} {q : List Nat} {sv : Option Nat} {dn : Nat} {se : Nat → Option Nat} {serving awaited doneAt size : Int32} {row servedAt : Nat → Int32}
theorem Co_serve (hP : pOK P) (hw : Rn wants (pWt P) (pCnt P)) (hm : m < 200) (hn : q.Nodup) (hx : ∀ x ∈ q, x < pCnt P) (hsv : ∀ p, sv = some p → p < pCnt P) (h : RX tf (q, sv, dn, se) serving awaited doneAt size row servedAt) :
    ∃ sv' aw' dn' sz' row' sa', Co_run_j141 (nI s) tfI last (nI (pLaw P)) (nI (pCnt P)) b kinds comes wants outs mv (nI m) serving awaited tn doneAt size row servedAt = some (.inl (mv, nI (m + 1), sv', aw', tn, dn', sz', row', sa')) ∧ RX tf (srv P m q sv dn se) sv' aw' dn' sz' row' sa' := by
  obtain ⟨h1, h2, h3, h4, h5, aw, h6, h7, h8⟩ := id h
  have hc7 := hP.2.1
  have hlen := nd_len hn hx
  unfold Co_run_j141
  cases sv with
  | some p =>
    have hp : ¬ serving = -9 := by
      rw [h3]
      have := hsv p rfl
      exact fun e => neg9 (by omega) e.symm
    rw [if_neg hp]
    simp only [lt, nI_1]
    exact ⟨_, _, _, _, _, _, rfl, h⟩
  | none =>
    rw [if_pos (show serving = -9 from h3)]
    unfold Co_serveFirst
    have h1 : size = nI q.length := h1
    cases q with
    | nil =>
      rw [h1, li0, show ([] : List Nat).length = 0 from rfl, Li_remove_no (Nat.le_refl 0) (by omega)]
      simp only [Option.bind_some, if_true, lt, nI_1]
      refine ⟨_, _, _, _, _, _, rfl, ?_⟩
      rw [h1] at h
      exact h
    | cons p t =>
      have hp : p < pCnt P := hx p (List.mem_cons_self ..)
      have hwp := (hP.2.2 p hp).2.2
      obtain ⟨a1, e1, r1⟩ := Li_remove_ok (q := p :: t) (k := 0) (x := p) h2 rfl (by omega)
      rw [h1, li0, e1]
      simp only [Option.bind_some]
      rw [if_neg (fun z => neg9 (by omega) z.symm)]
      simp only [if_pos (ck_nI (show p < 7 by omega) (by omega)), lt, Option.bind_some, nI_1]
      rw [nI_clamp (by omega), hw p hp, nI_add, h7, clr_ok aw h6 p (by omega)]
      refine ⟨_, _, _, _, _, _, rfl, rfl, r1, rfl, fun _ => rfl, ?_, clr aw p, (clr_bit aw h6 p (by omega)).1, rfl, ?_⟩
      · intro p' t' e
        have e : upO se p (some m) p' = some t' := e
        unfold upO at e
        rw [upd_eq]
        by_cases c : p' = p
        · rw [if_pos c] at e ⊢
          cases e
          rfl
        · rw [if_neg c] at e ⊢
          exact h5 p' t' e
      · intro j hj
        rw [(clr_bit aw h6 p (by omega)).2 j hj, h8 j hj]
        show (tf.testBit j && (se j).isNone && !decide (j = p)) = (tf.testBit j && (upO se p (some m) j).isNone)
        unfold upO
        by_cases c : j = p
        · rw [if_pos c]; simp [c]
        · rw [if_neg c]; simp [c]
theorem Co_bell (hP : pOK P) (hw : Rn wants (pWt P) (pCnt P)) (hm : m < 200) (hn : q.Nodup) (hx : ∀ x ∈ q, x < pCnt P) (hsv : ∀ p, sv = some p → p < pCnt P) (h : RX tf (q, sv, dn, se) serving awaited doneAt size row servedAt) :
    ∃ sv' aw' tn' dn' sz' row' sa', Co_run_j87 (nI s) tfI last (nI (pLaw P)) (nI (pCnt P)) b kinds comes wants outs mv (nI m) serving awaited tn doneAt size row servedAt = some (.inl (mv, nI (m + 1), sv', aw', tn', dn', sz', row', sa')) ∧ RX tf (srv P m (belQ P (bellF b) m q) sv dn se) sv' aw' dn' sz' row' sa' ∧ ∀ k, k < 64 → (bitL tn' k = true ↔ bitL tn k = true ∨ (k = m ∧ m < 60 ∧ 1 < q.length)) := by
  have h1 : size = nI q.length := h.1
  have hlen := nd_len hn hx
  have hc7 := hP.2.1
  unfold Co_run_j87
  rcases Nat.lt_or_ge 1 q.length with c | c
  · rw [if_neg (by rw [h1, li1]; exact nI_ge c (by omega))]
    rcases Nat.lt_or_ge m 60 with c2 | c2
    · rw [if_neg (by rw [show (60 : Int32) = nI 60 from rfl]; exact nI_ge c2 (by omega)), hasMin_ok (by omega)]
      simp only [lt, Option.bind_some]
      have htn : ∀ k, k < 64 → (bitL (tn ||| ((1 : Int64) <<< ((nI m).toInt64 &&& 63))) k = true ↔ bitL tn k = true ∨ (k = m ∧ m < 60 ∧ 1 < q.length)) := by
        intro k hk
        rw [bitL_or, bitL_one (by omega), Bool.or_eq_true, decide_eq_true_iff]
        exact ⟨fun z => z.elim Or.inl (fun z => Or.inr ⟨z, c2, c⟩), fun z => z.elim Or.inl (fun z => Or.inr z.1)⟩
      by_cases hb : bitL b m = true
      · rw [if_pos (show m < 60 ∧ bitL b m = true from ⟨c2, hb⟩), if_neg (show ¬ (1 : Int32) = 0 by decide)]
        obtain ⟨a1, e1, r1⟩ := Li_turn_ok (q := q) (law := pLaw P) h.2.1 hP.1 (by omega)
        rw [h1, e1]
        simp only [Option.bind_some]
        have eb : belQ P (bellF b) m q = turnQ (pLaw P) q := by unfold belQ; rw [if_pos (bellF_eq.mpr ⟨c2, hb⟩)]
        have hpm := turnQ_perm (pLaw P) q
        obtain ⟨sv', aw', dn', sz', row', sa', g1, g2⟩ := Co_serve (s := s) (tfI := tfI) (last := last) (b := b) (kinds := kinds) (comes := comes) (outs := outs) (mv := mv) (tn := tn ||| ((1 : Int64) <<< ((nI m).toInt64 &&& 63))) hP hw hm (hpm.nodup_iff.mpr hn) (fun x z => hx x (hpm.mem_iff.mp z)) hsv (show RX tf (turnQ (pLaw P) q, sv, dn, se) serving awaited doneAt (nI (turnQ (pLaw P) q).length) a1 servedAt from ⟨rfl, r1, h.2.2⟩)
        rw [eb]
        exact ⟨sv', aw', _, dn', sz', row', sa', g1, g2, htn⟩
      · rw [if_neg (show ¬ (m < 60 ∧ bitL b m = true) from fun z => hb z.2), if_pos (show (0 : Int32) = 0 from rfl)]
        have eb : belQ P (bellF b) m q = q := by unfold belQ; rw [if_neg (fun z => hb (bellF_eq.mp z).2)]
        obtain ⟨sv', aw', dn', sz', row', sa', g1, g2⟩ := Co_serve (s := s) (tfI := tfI) (last := last) (b := b) (kinds := kinds) (comes := comes) (outs := outs) (mv := mv) (tn := tn ||| ((1 : Int64) <<< ((nI m).toInt64 &&& 63))) hP hw hm hn hx hsv h
        rw [eb]
        exact ⟨sv', aw', _, dn', sz', row', sa', g1, g2, htn⟩
    · rw [if_pos (by rw [show (60 : Int32) = nI 60 from rfl]; exact nI_le c2 (by omega))]
      have eb : belQ P (bellF b) m q = q := by unfold belQ; rw [if_neg (fun z => by have := (bellF_eq.mp z).1; omega)]
      obtain ⟨sv', aw', dn', sz', row', sa', g1, g2⟩ := Co_serve (s := s) (tfI := tfI) (last := last) (b := b) (kinds := kinds) (comes := comes) (outs := outs) (mv := mv) (tn := tn) hP hw hm hn hx hsv h
      rw [eb]
      exact ⟨sv', aw', _, dn', sz', row', sa', g1, g2, fun k hk => ⟨Or.inl, fun z => z.elim id (fun z => by omega)⟩⟩
  · rw [if_pos (by rw [h1, li1]; exact nI_le c (by omega))]
    have eb : belQ P (bellF b) m q = q := by
      unfold belQ
      rw [turnQ_short c]
      by_cases z : bellF b m = true
      · rw [if_pos z]
      · rw [if_neg z]
    obtain ⟨sv', aw', dn', sz', row', sa', g1, g2⟩ := Co_serve (s := s) (tfI := tfI) (last := last) (b := b) (kinds := kinds) (comes := comes) (outs := outs) (mv := mv) (tn := tn) hP hw hm hn hx hsv h
    rw [eb]
    exact ⟨sv', aw', _, dn', sz', row', sa', g1, g2, fun k hk => ⟨Or.inl, fun z => z.elim id (fun z => by omega)⟩⟩
theorem Co_moves (hP : pOK P) (hk : Rn kinds (pKd P) (pCnt P)) (hc : Rn comes (pCm P) (pCnt P)) (hw : Rn wants (pWt P) (pCnt P)) (ho : ∀ p, p < pCnt P → outs p = oI (pOt P p)) (hs : s < 128) (hmv : ∀ m, m < 64 → (bitL mv m = true ↔ ∃ p, p < pCnt P ∧ (pCm P p = m ∨ pOt P p = some m))) (hm : m < 200) {S : Dst} (hD : DI P s.testBit m S) (hsv : ∀ p, sv = some p → p < pCnt P) (h : RX tf (S.1, sv, dn, se) serving awaited doneAt size row servedAt) :
    ∃ sv' aw' tn' dn' sz' row' sa', Co_run_j62 (nI s) tfI last (nI (pLaw P)) (nI (pCnt P)) b kinds comes wants outs mv (nI m) serving awaited tn doneAt size row servedAt = some (.inl (mv, nI (m + 1), sv', aw', tn', dn', sz', row', sa')) ∧ RX tf (srv P m (belQ P (bellF b) m (preQ P s.testBit m S.1)) sv dn se) sv' aw' dn' sz' row' sa' ∧ ∀ k, k < 64 → (bitL tn' k = true ↔ bitL tn k = true ∨ (k = m ∧ m < 60 ∧ 1 < (preQ P s.testBit m S.1).length)) := by
  obtain ⟨q1, q2⟩ := preQ_of hD
  have hx : ∀ x ∈ preQ P s.testBit m S.1, x < pCnt P := fun x z => ((q2 x).mp z).elim (fun z => (hD.2.1 x z).1) (fun z => z.1)
  have hx0 : ∀ x ∈ S.1, x < pCnt P := fun x z => (hD.2.1 x z).1
  unfold Co_run_j62
  rw [hasMin_ok (by omega)]
  simp only [Option.bind_some]
  by_cases c : m < 60 ∧ bitL mv m = true
  · rw [if_pos c, if_neg (show ¬ (1 : Int32) = 0 by decide)]
    obtain ⟨a1, e1, r1⟩ := Co_letRunOut_ok (m := m) hP ho (by omega) h.2.1 hD.1 hx0
    obtain ⟨a2, e2, r2⟩ := Co_co_loop (m := m) hP hk hc hs (by omega) (pCnt P) 0 _ a1 (by omega) r1 (roQ_nd _ _ _ hD.1) (fun x z => hx0 x ((roQ_mem _ _ _).mp z)) (fun x z z1 _ => by have := (hD.2.1 x ((roQ_mem _ _ _).mp z)).2.2.1; omega)
    rw [show size = nI S.1.length from h.1, e1]
    simp only [Option.bind_some]
    have e2 : Co_letCome (nI s) (nI m) (nI (pCnt P)) kinds comes (nI (roQ P m (pCnt P) 0 S.1).length) a1 = _ := e2
    rw [e2]
    simp only [Option.bind_some]
    exact Co_bell hP hw hm q1 hx hsv (show RX tf (preQ P s.testBit m S.1, sv, dn, se) serving awaited doneAt _ a2 servedAt from ⟨rfl, r2, h.2.2⟩)
  · rw [if_neg c, if_pos (show (0 : Int32) = 0 from rfl)]
    have hno : ∀ p, p < pCnt P → pOt P p ≠ some m ∧ pCm P p ≠ m := by
      intro p hp
      have hb := hP.2.2 p hp
      rcases Nat.lt_or_ge m 60 with c2 | c2
      · have hnb : ¬ bitL mv m = true := fun z => c ⟨c2, z⟩
        rw [hmv m (by omega)] at hnb
        exact ⟨fun e => hnb ⟨p, hp, Or.inr e⟩, fun e => hnb ⟨p, hp, Or.inl e⟩⟩
      · exact ⟨fun e => by have := hb.2.2.2.2 m e; omega, by omega⟩
    have eq : preQ P s.testBit m S.1 = S.1 := preQ_id (fun p hp => (hno p hp).1) (fun p hp => (hno p hp).2)
    rw [eq] at q1 hx ⊢
    exact Co_bell hP hw hm q1 hx hsv h
/-- the state of a run at a minute -/
def RC (P : Pln) (s tf : Nat) (b : Int64) (m : Nat) (serving awaited : Int32) (tn : Int64) (doneAt size : Int32) (row servedAt : Nat → Int32) : Prop :=
  RX tf (dayAt P s.testBit (bellF b) m) serving awaited doneAt size row servedAt ∧ ∀ k, k < 64 → (bitL tn k = true ↔ k < m ∧ k < 60 ∧ 1 < (preQ P s.testBit k (dayAt P s.testBit (bellF b) k).1).length)
theorem Co_minute (hP : pOK P) (hk : Rn kinds (pKd P) (pCnt P)) (hc : Rn comes (pCm P) (pCnt P)) (hw : Rn wants (pWt P) (pCnt P)) (ho : ∀ p, p < pCnt P → outs p = oI (pOt P p)) (hs : s < 128) (hmv : ∀ m, m < 64 → (bitL mv m = true ↔ ∃ p, p < pCnt P ∧ (pCm P p = m ∨ pOt P p = some m))) (hm : m < 200) (hl : ¬ last < nI m) (ha : ¬ awaited = 0) (h : RC P s tf b m serving awaited tn doneAt size row servedAt) :
    ∃ sv' aw' tn' dn' sz' row' sa', Co_run_l33 (nI s) tfI last (nI (pLaw P)) (nI (pCnt P)) b kinds comes wants outs mv (nI m) serving awaited tn doneAt size row servedAt = Co_run_l33 (nI s) tfI last (nI (pLaw P)) (nI (pCnt P)) b kinds comes wants outs mv (nI (m + 1)) sv' aw' tn' dn' sz' row' sa' ∧ RC P s tf b (m + 1) sv' aw' tn' dn' sz' row' sa' := by
  have hD := DI_day hP s.testBit (bellF b) m
  obtain ⟨hX, hT⟩ := h
  have key : ∃ sv2, (if nI m = doneAt then Co_run_j62 (nI s) tfI last (nI (pLaw P)) (nI (pCnt P)) b kinds comes wants outs mv (nI m) (-9) awaited tn doneAt size row servedAt else Co_run_j62 (nI s) tfI last (nI (pLaw P)) (nI (pCnt P)) b kinds comes wants outs mv (nI m) serving awaited tn doneAt size row servedAt) = Co_run_j62 (nI s) tfI last (nI (pLaw P)) (nI (pCnt P)) b kinds comes wants outs mv (nI m) sv2 awaited tn doneAt size row servedAt ∧ RX tf ((dayAt P s.testBit (bellF b) m).1, svQ m (dayAt P s.testBit (bellF b) m).2.1 (dayAt P s.testBit (bellF b) m).2.2.1, (dayAt P s.testBit (bellF b) m).2.2.1, (dayAt P s.testBit (bellF b) m).2.2.2) sv2 awaited doneAt size row servedAt := by
    obtain ⟨h1, h2, h3, h4, h5⟩ := hX
    generalize dayAt P s.testBit (bellF b) m = S at *
    unfold svQ
    cases hs : S.2.1 with
    | none =>
      have h3 : serving = -9 := by rw [h3, hs]; rfl
      refine ⟨-9, ?_, h1, h2, ?_, ?_, h5⟩
      · rw [h3]
        by_cases c : nI m = doneAt
        · rw [if_pos c]
        · rw [if_neg c]
      · show -9 = oI (if S.2.2.1 = m then none else none)
        by_cases c : S.2.2.1 = m
        · rw [if_pos c]; rfl
        · rw [if_neg c]; rfl
      · intro z
        exfalso
        apply z
        show (if S.2.2.1 = m then none else none) = none
        by_cases c : S.2.2.1 = m
        · rw [if_pos c]
        · rw [if_neg c]
    | some p =>
      have hd : doneAt = nI S.2.2.1 := h4 (by rw [hs]; simp)
      obtain ⟨hp, t, b1, b2, b3⟩ := hD.2.2.2.2 p hs
      have hwp := (hP.2.2 p hp).2.2
      have ht := (hD.2.2.2.1 p t b1).2.2.2
      by_cases c : S.2.2.1 = m
      · refine ⟨-9, ?_, h1, h2, ?_, ?_, h5⟩
        · rw [if_pos (by rw [hd, c])]
        · show -9 = oI (if S.2.2.1 = m then none else some p)
          rw [if_pos c]; rfl
        · intro z
          exfalso
          apply z
          show (if S.2.2.1 = m then none else some p) = none
          rw [if_pos c]
      · refine ⟨serving, ?_, h1, h2, ?_, fun _ => hd, h5⟩
        · rw [if_neg (by rw [hd, nI_eq (by omega) (by omega)]; exact fun e => c e.symm)]
        · show serving = oI (if S.2.2.1 = m then none else some p)
          rw [if_neg c, h3, hs]
  obtain ⟨sv2, k1, k2⟩ := key
  have hsv : ∀ p, svQ m (dayAt P s.testBit (bellF b) m).2.1 (dayAt P s.testBit (bellF b) m).2.2.1 = some p → p < pCnt P := by
    intro p e
    unfold svQ at e
    by_cases c : (dayAt P s.testBit (bellF b) m).2.2.1 = m
    · rw [if_pos c] at e; cases e
    · rw [if_neg c] at e; exact (hD.2.2.2.2 p e).1
  obtain ⟨sv', aw', tn', dn', sz', row', sa', g1, g2, g3⟩ := Co_moves (tfI := tfI) (last := last) (b := b) (tn := tn) hP hk hc hw ho hs hmv hm hD hsv k2
  refine ⟨sv', aw', tn', dn', sz', row', sa', ?_, g2, ?_⟩
  · rw [Co_run_l33_eq]
    unfold Co_run_b33
    rw [if_neg hl, if_neg ha, k1, g1]
    rfl
  · intro k hk6
    rw [g3 k hk6, hT k hk6]
    constructor
    · rintro (z | z)
      · exact ⟨by omega, z.2⟩
      · rw [z.1]; exact ⟨by omega, z.2⟩
    · rintro ⟨z1, z2, z3⟩
      by_cases c : k = m
      · rw [c] at z2 z3; exact Or.inr ⟨c, z2, z3⟩
      · exact Or.inl ⟨by omega, z2, z3⟩
end
theorem Co_run_loop {P : Pln} {kinds comes wants outs : Nat → Int32} {s tf L : Nat} {tfI : Int32} {b mv : Int64} (hP : pOK P) (hk : Rn kinds (pKd P) (pCnt P)) (hc : Rn comes (pCm P) (pCnt P)) (hw : Rn wants (pWt P) (pCnt P)) (ho : ∀ p, p < pCnt P → outs p = oI (pOt P p)) (hs : s < 128) (hmv : ∀ m, m < 64 → (bitL mv m = true ↔ ∃ p, p < pCnt P ∧ (pCm P p = m ∨ pOt P p = some m))) (hL : L < 200) :
    ∀ (d m : Nat) (serving awaited : Int32) (tn : Int64) (doneAt size : Int32) (row servedAt : Nat → Int32), L + 1 = m + d → RC P s tf b m serving awaited tn doneAt size row servedAt →
      ∃ M sv' aw' tn' dn' sz' row' sa', M ≤ L + 1 ∧ Co_run_l33 (nI s) tfI (nI L) (nI (pLaw P)) (nI (pCnt P)) b kinds comes wants outs mv (nI m) serving awaited tn doneAt size row servedAt = some (sv', aw', tn', dn', sz', row', sa') ∧ RC P s tf b M sv' aw' tn' dn' sz' row' sa' ∧ (M = L + 1 ∨ aw' = 0)
  | 0, m, serving, awaited, tn, doneAt, size, row, servedAt, hd, h => by
    refine ⟨m, serving, awaited, tn, doneAt, size, row, servedAt, by omega, ?_, h, Or.inl (by omega)⟩
    rw [Co_run_l33_eq]
    unfold Co_run_b33
    rw [if_pos (nI_lt (by omega) (by omega)), pu_rt]
  | d + 1, m, serving, awaited, tn, doneAt, size, row, servedAt, hd, h => by
    by_cases ha : awaited = 0
    · refine ⟨m, serving, awaited, tn, doneAt, size, row, servedAt, by omega, ?_, h, Or.inr ha⟩
      rw [Co_run_l33_eq]
      unfold Co_run_b33
      rw [if_neg (nI_nlt (by omega) (by omega)), if_pos ha, pu_rt]
    · obtain ⟨sv', aw', tn', dn', sz', row', sa', g1, g2⟩ := Co_minute (tfI := tfI) (last := nI L) hP hk hc hw ho hs hmv (by omega) (nI_nlt (by omega) (by omega)) ha h
      rw [g1]
      exact Co_run_loop hP hk hc hw ho hs hmv hL d (m + 1) sv' aw' tn' dn' sz' row' sa' (by omega) g2
theorem RC_0 {P : Pln} {s tf : Nat} {b : Int64} {doneAt : Int32} {row servedAt : Nat → Int32} (htf : tf < 256) : RC P s tf b 0 (-9) (nI tf) 0 doneAt 0 row servedAt := by
  refine ⟨⟨rfl, fun i x e => by simp [dayAt] at e, rfl, fun z => absurd rfl z, fun p t e => by simp [dayAt] at e, tf, htf, rfl, fun j hj => ?_⟩, fun k hk => ?_⟩
  · show tf.testBit j = (tf.testBit j && true)
    rw [Bool.and_true]
  · rw [bitL_0]
    exact ⟨fun z => (by cases z), fun z => absurd z.1 (Nat.not_lt_zero k)⟩
/-- what a run of the counter comes to -/
theorem Co_run_ok {P : Pln} {law cnt : Int32} {kinds comes wants outs : Nat → Int32} {s tf L : Nat} {b : Int64} (hP : pOK P) (hR : RP P law cnt kinds comes wants outs) (hs : s < 128) (htf : tf < 256) (hL : L < 200) (t1 t2 : Int32) (t3 : Int64) (t4 t5 : Int32) (row servedAt : Nat → Int32) :
    ∃ M sv' aw' tn' dn' sz' row' sa', M ≤ L + 1 ∧ Co_run (nI s) (nI tf) (nI L) law cnt b kinds comes wants outs t1 t2 t3 t4 t5 row servedAt = some (sv', aw', tn', dn', sz', row', sa') ∧ RC P s tf b M sv' aw' tn' dn' sz' row' sa' ∧ (M = L + 1 ∨ aw' = 0) := by
  obtain ⟨rfl, rfl, hk, hc, hw, ho⟩ := hR
  obtain ⟨mv, e1, hmv⟩ := Co_movesOf_ok hP hc ho
  obtain ⟨M, sv', aw', tn', dn', sz', row', sa', g1, g2, g3, g4⟩ := Co_run_loop (tfI := nI tf) (b := b) hP hk hc hw ho hs hmv hL (L + 1) 0 (-9) (nI tf) 0 t4 0 row servedAt (by omega) (RC_0 htf)
  refine ⟨M, sv', aw', tn', dn', sz', row', sa', g1, ?_, g3, g4⟩
  unfold Co_run
  rw [e1]
  exact g2

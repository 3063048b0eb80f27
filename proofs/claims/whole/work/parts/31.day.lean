/-! ===== the day, as lists and numbers ===== -/
abbrev Pln : Type := Nat × Nat × (Nat → Nat) × (Nat → Nat) × (Nat → Nat) × (Nat → Option Nat)
abbrev Dst : Type := List Nat × Option Nat × Nat × (Nat → Option Nat)
def pLaw (P : Pln) : Nat := P.1
def pCnt (P : Pln) : Nat := P.2.1
def pKd (P : Pln) : Nat → Nat := P.2.2.1
def pCm (P : Pln) : Nat → Nat := P.2.2.2.1
def pWt (P : Pln) : Nat → Nat := P.2.2.2.2.1
def pOt (P : Pln) : Nat → Option Nat := P.2.2.2.2.2
def pOK (P : Pln) : Prop := pLaw P ≤ 2 ∧ pCnt P ≤ 7 ∧ ∀ p, p < pCnt P → pKd P p ≤ 2 ∧ pCm P p < 60 ∧ 1 ≤ pWt P p ∧ pWt P p ≤ 9 ∧ ∀ m, pOt P p = some m → m < 60
/-- one who runs out -/
def roS (P : Pln) (m : Nat) (q : List Nat) (p : Nat) : List Nat := if pOt P p = some m ∧ p ∈ q then q.filter (fun x => decide (x ≠ p)) ++ [p] else q
def roQ (P : Pln) (m : Nat) : Nat → Nat → List Nat → List Nat
  | 0, _, q => q
  | d + 1, i, q => roQ P m d (i + 1) (roS P m q i)
/-- one who comes -/
def coS (P : Pln) (who : Nat → Bool) (m : Nat) (q : List Nat) (p : Nat) : List Nat := if pCm P p = m ∧ who p = true then q.insertIdx (placeQ (pKd P) q p) p else q
def coQ (P : Pln) (who : Nat → Bool) (m : Nat) : Nat → Nat → List Nat → List Nat
  | 0, _, q => q
  | d + 1, i, q => coQ P who m d (i + 1) (coS P who m q i)
/-- the queue of a minute, ahead of the bell -/
def preQ (P : Pln) (who : Nat → Bool) (m : Nat) (q : List Nat) : List Nat := coQ P who m (pCnt P) 0 (roQ P m (pCnt P) 0 q)
def svQ (m : Nat) (sv : Option Nat) (dn : Nat) : Option Nat := if dn = m then none else sv
def upO (f : Nat → Option Nat) (p : Nat) (v : Option Nat) : Nat → Option Nat := fun j => if j = p then v else f j
/-- the first is served, if nobody is -/
def srv (P : Pln) (m : Nat) (q : List Nat) (sv : Option Nat) (dn : Nat) (se : Nat → Option Nat) : Dst := match sv, q with
  | none, p :: t => (t, some p, m + pWt P p, upO se p (some m))
  | sv, q => (q, sv, dn, se)
def belQ (P : Pln) (bell : Nat → Bool) (m : Nat) (q : List Nat) : List Nat := if bell m = true then turnQ (pLaw P) q else q
def stepD (P : Pln) (who bell : Nat → Bool) (m : Nat) (S : Dst) : Dst :=
  srv P m (belQ P bell m (preQ P who m S.1)) (svQ m S.2.1 S.2.2.1) S.2.2.1 S.2.2.2
/-- how it stands behind m minutes -/
def dayAt (P : Pln) (who bell : Nat → Bool) : Nat → Dst
  | 0 => ([], none, 0, fun _ => none)
  | m + 1 => stepD P who bell m (dayAt P who bell m)
/-! lists -/
theorem eraseIdx_filter : ∀ {q : List Nat} {k p : Nat}, q.Nodup → q[k]? = some p → q.eraseIdx k = q.filter (fun x => decide (x ≠ p))
  | [], k, p, _, h => by simp at h
  | x :: t, 0, p, hn, h => by
    simp only [List.getElem?_cons_zero, Option.some.injEq] at h
    subst h
    have hx : x ∉ t := (List.nodup_cons.mp hn).1
    rw [List.eraseIdx_cons_zero, List.filter_cons]
    rw [if_neg (by simp)]
    symm
    rw [List.filter_eq_self]
    intro a ha
    simp only [decide_eq_true_eq]
    intro e
    subst e
    exact hx ha
  | x :: t, k + 1, p, hn, h => by
    rw [List.getElem?_cons_succ] at h
    have hx : x ∉ t := (List.nodup_cons.mp hn).1
    have hp : p ∈ t := List.mem_of_getElem? h
    rw [List.eraseIdx_cons_succ, List.filter_cons, if_pos (by simp only [decide_eq_true_eq]; intro e; subst e; exact hx hp), eraseIdx_filter (List.nodup_cons.mp hn).2 h]
theorem len_filter (a : Nat) : ∀ {q : List Nat}, q.Nodup → q.length ≤ (q.filter (fun x => decide (x ≠ a))).length + 1
  | [], _ => by simp
  | x :: t, hn => by
    have hn2 := List.nodup_cons.mp hn
    by_cases c : x = a
    · subst c
      rw [List.filter_cons, if_neg (by simp)]
      have : t.filter (fun y => decide (y ≠ x)) = t := by
        rw [List.filter_eq_self]
        intro b hb
        simp only [decide_eq_true_eq]
        intro e
        subst e
        exact hn2.1 hb
      rw [this, List.length_cons]
      omega
    · rw [List.filter_cons, if_pos (by simpa using c), List.length_cons, List.length_cons]
      have := len_filter a hn2.2
      omega
theorem nd_len : ∀ {n : Nat} {q : List Nat}, q.Nodup → (∀ x ∈ q, x < n) → q.length ≤ n
  | 0, [], _, _ => Nat.le_refl 0
  | 0, x :: t, _, h => absurd (h x (List.mem_cons_self ..)) (Nat.not_lt_zero x)
  | n + 1, q, hn, h => by
    have h1 := len_filter n hn
    have h2 : (q.filter (fun x => decide (x ≠ n))).length ≤ n := nd_len (hn.sublist (List.filter_sublist ..)) (fun x hx => by
      have h3 := List.mem_filter.mp hx
      have h4 := h x h3.1
      have h5 : x ≠ n := by simpa using h3.2
      omega)
    omega
theorem ins_perm : ∀ {q : List Nat} {k p : Nat}, k ≤ q.length → (q.insertIdx k p).Perm (p :: q)
  | q, 0, p, _ => by rw [List.insertIdx_zero]
  | [], k + 1, p, h => by simp at h
  | x :: t, k + 1, p, h => by
    rw [List.insertIdx_succ_cons]
    exact ((ins_perm (by simpa using h)).cons x).trans (List.Perm.swap p x t)
theorem turnQ_perm (law : Nat) (q : List Nat) : (turnQ law q).Perm q := by
  unfold turnQ
  by_cases h0 : law = 0
  · rw [if_pos h0]; exact List.reverse_perm q
  · rw [if_neg h0]
    by_cases h1 : law = 1
    · rw [if_pos h1]
      have := (List.reverse_perm (q.take (q.length / 2))).append_right (q.drop (q.length / 2))
      rw [List.take_append_drop] at this
      exact this
    · rw [if_neg h1]
      cases hq : q.getLast? with
      | none => rw [List.getLast?_eq_none_iff.mp hq]
      | some x =>
        have hne : q ≠ [] := fun e => by rw [e] at hq; cases hq
        have hx : q.getLast hne = x := by
          rw [List.getLast?_eq_some_getLast hne] at hq
          exact Option.some.inj hq
        have e : q.dropLast ++ [x] = q := by rw [← hx]; exact List.dropLast_concat_getLast hne
        have h2 : (x :: q.dropLast).Perm (q.dropLast ++ [x]) := (List.perm_append_singleton x q.dropLast).symm
        rw [e] at h2
        exact h2
theorem roS_mem {P : Pln} {m : Nat} {q : List Nat} {p x : Nat} : x ∈ roS P m q p ↔ x ∈ q := by
  unfold roS
  by_cases c : pOt P p = some m ∧ p ∈ q
  · rw [if_pos c, List.mem_append, List.mem_filter, List.mem_singleton]
    constructor
    · rintro (h | h)
      · exact h.1
      · rw [h]; exact c.2
    · intro h
      by_cases e : x = p
      · exact Or.inr e
      · exact Or.inl ⟨h, by simpa using e⟩
  · rw [if_neg c]
theorem roS_nd {P : Pln} {m : Nat} {q : List Nat} {p : Nat} (h : q.Nodup) : (roS P m q p).Nodup := by
  unfold roS
  by_cases c : pOt P p = some m ∧ p ∈ q
  · rw [if_pos c, List.nodup_append]
    refine ⟨h.sublist (List.filter_sublist ..), List.nodup_cons.mpr ⟨List.not_mem_nil, List.nodup_nil⟩, ?_⟩
    intro a ha b hb e
    rw [List.mem_singleton] at hb
    have := (List.mem_filter.mp ha).2
    simp only [decide_eq_true_eq] at this
    exact this (e.trans hb)
  · rw [if_neg c]; exact h
theorem roQ_mem {P : Pln} {m x : Nat} : ∀ (d i : Nat) (q : List Nat), x ∈ roQ P m d i q ↔ x ∈ q
  | 0, _, q => Iff.rfl
  | d + 1, i, q => (roQ_mem d (i + 1) _).trans roS_mem
theorem roQ_nd {P : Pln} {m : Nat} : ∀ (d i : Nat) (q : List Nat), q.Nodup → (roQ P m d i q).Nodup
  | 0, _, _, h => h
  | d + 1, i, q, h => roQ_nd d (i + 1) _ (roS_nd h)
theorem coS_mem {P : Pln} {who : Nat → Bool} {m : Nat} {q : List Nat} {p x : Nat} : x ∈ coS P who m q p ↔ x ∈ q ∨ (x = p ∧ pCm P p = m ∧ who p = true) := by
  unfold coS
  by_cases c : pCm P p = m ∧ who p = true
  · rw [if_pos c, (ins_perm (placeQ_le (pKd P) q p)).mem_iff, List.mem_cons]
    constructor
    · rintro (h | h)
      · exact Or.inr ⟨h, c⟩
      · exact Or.inl h
    · rintro (h | h)
      · exact Or.inr h
      · exact Or.inl h.1
  · rw [if_neg c]
    constructor
    · exact Or.inl
    · rintro (h | h)
      · exact h
      · exact absurd h.2 c
theorem coS_nd {P : Pln} {who : Nat → Bool} {m : Nat} {q : List Nat} {p : Nat} (h : q.Nodup) (hp : p ∉ q) : (coS P who m q p).Nodup := by
  unfold coS
  by_cases c : pCm P p = m ∧ who p = true
  · rw [if_pos c, (ins_perm (placeQ_le (pKd P) q p)).nodup_iff, List.nodup_cons]
    exact ⟨hp, h⟩
  · rw [if_neg c]; exact h
theorem coQ_mem {P : Pln} {who : Nat → Bool} {m x : Nat} : ∀ (d i : Nat) (q : List Nat), x ∈ coQ P who m d i q ↔ x ∈ q ∨ (i ≤ x ∧ x < i + d ∧ pCm P x = m ∧ who x = true)
  | 0, i, q => ⟨Or.inl, fun h => h.elim id (fun h => absurd h.2.1 (by omega))⟩
  | d + 1, i, q => by
    show x ∈ coQ P who m d (i + 1) (coS P who m q i) ↔ _
    rw [coQ_mem d (i + 1), coS_mem]
    constructor
    · rintro ((h | h) | h)
      · exact Or.inl h
      · exact Or.inr ⟨by omega, by omega, by rw [h.1]; exact h.2.1, by rw [h.1]; exact h.2.2⟩
      · exact Or.inr ⟨by omega, by omega, h.2.2⟩
    · rintro (h | h)
      · exact Or.inl (Or.inl h)
      · by_cases e : x = i
        · exact Or.inl (Or.inr ⟨e, by rw [← e]; exact h.2.2.1, by rw [← e]; exact h.2.2.2⟩)
        · exact Or.inr ⟨by omega, by omega, h.2.2⟩
theorem coQ_nd {P : Pln} {who : Nat → Bool} {m : Nat} : ∀ (d i : Nat) (q : List Nat), q.Nodup → (∀ x ∈ q, pCm P x = m → who x = true → x < i) → (coQ P who m d i q).Nodup
  | 0, _, _, h, _ => h
  | d + 1, i, q, h, hx => by
    by_cases c : pCm P i = m ∧ who i = true
    · refine coQ_nd d (i + 1) _ (coS_nd h (fun hm => absurd (hx i hm c.1 c.2) (Nat.lt_irrefl i))) ?_
      intro x hm h1 h2
      rcases coS_mem.mp hm with h3 | h3
      · have := hx x h3 h1 h2; omega
      · omega
    · have e : coS P who m q i = q := by unfold coS; rw [if_neg c]
      show (coQ P who m d (i + 1) (coS P who m q i)).Nodup
      rw [e]
      exact coQ_nd d (i + 1) _ h (fun x hm h1 h2 => by have := hx x hm h1 h2; omega)
/-- what holds behind m minutes -/
def DI (P : Pln) (who : Nat → Bool) (m : Nat) (S : Dst) : Prop :=
  S.1.Nodup ∧ (∀ p ∈ S.1, p < pCnt P ∧ who p = true ∧ pCm P p < m ∧ S.2.2.2 p = none) ∧
  (∀ p, p < pCnt P → who p = true → pCm P p < m → p ∈ S.1 ∨ S.2.2.2 p ≠ none) ∧
  (∀ p t, S.2.2.2 p = some t → p < pCnt P ∧ who p = true ∧ pCm P p ≤ t ∧ t < m) ∧
  (∀ p, S.2.1 = some p → p < pCnt P ∧ ∃ t, S.2.2.2 p = some t ∧ S.2.2.1 = t + pWt P p ∧ m ≤ S.2.2.1)
theorem DI_0 (P : Pln) (who bell : Nat → Bool) : DI P who 0 (dayAt P who bell 0) := by
  refine ⟨List.nodup_nil, fun p h => absurd h List.not_mem_nil, fun p _ _ h => absurd h (Nat.not_lt_zero _), fun p t h => ?_, fun p h => ?_⟩
  · exact absurd h (by simp [dayAt])
  · exact absurd h (by simp [dayAt])
/-- the queue of a minute ahead of the bell: who is in it -/
theorem preQ_of {P : Pln} {who : Nat → Bool} {m : Nat} {S : Dst} (h : DI P who m S) : (preQ P who m S.1).Nodup ∧ (∀ p, p ∈ preQ P who m S.1 ↔ p ∈ S.1 ∨ (p < pCnt P ∧ pCm P p = m ∧ who p = true)) := by
  obtain ⟨h1, h2, h3, h4, h5⟩ := h
  unfold preQ
  constructor
  · refine coQ_nd _ _ _ (roQ_nd _ _ _ h1) ?_
    intro x hx hc hw
    have := (h2 x ((roQ_mem _ _ _).mp hx)).2.2.1
    omega
  · intro p
    rw [coQ_mem, roQ_mem]
    constructor
    · rintro (h | h)
      · exact Or.inl h
      · exact Or.inr ⟨by omega, h.2.2⟩
    · rintro (h | h)
      · exact Or.inl h
      · exact Or.inr ⟨by omega, by omega, h.2⟩
theorem belQ_perm (P : Pln) (bell : Nat → Bool) (m : Nat) (q : List Nat) : (belQ P bell m q).Perm q := by
  unfold belQ
  by_cases c : bell m = true
  · rw [if_pos c]; exact turnQ_perm _ _
  · rw [if_neg c]
theorem DI_step {P : Pln} (hP : pOK P) {who bell : Nat → Bool} {m : Nat} {S : Dst} (h : DI P who m S) : DI P who (m + 1) (stepD P who bell m S) := by
  obtain ⟨q1, q2⟩ := preQ_of h
  obtain ⟨h1, h2, h3, h4, h5⟩ := h
  have hn : (belQ P bell m (preQ P who m S.1)).Nodup := (belQ_perm P bell m _).nodup_iff.mpr q1
  have hm : ∀ p, p ∈ belQ P bell m (preQ P who m S.1) ↔ p ∈ S.1 ∨ (p < pCnt P ∧ pCm P p = m ∧ who p = true) := fun p => (belQ_perm P bell m _).mem_iff.trans (q2 p)
  have hfree : ∀ p, p ∈ belQ P bell m (preQ P who m S.1) → p < pCnt P ∧ who p = true ∧ pCm P p < m + 1 ∧ S.2.2.2 p = none := by
    intro p hp
    rcases (hm p).mp hp with a | a
    · obtain ⟨b1, b2, b3, b4⟩ := h2 p a
      exact ⟨b1, b2, by omega, b4⟩
    · refine ⟨a.1, a.2.2, by omega, ?_⟩
      cases e : S.2.2.2 p with
      | none => rfl
      | some t => have := h4 p t e; omega
  have hall : ∀ p, p < pCnt P → who p = true → pCm P p < m + 1 → p ∈ belQ P bell m (preQ P who m S.1) ∨ S.2.2.2 p ≠ none := by
    intro p hp hw hc
    rcases Nat.lt_or_ge (pCm P p) m with c | c
    · rcases h3 p hp hw c with a | a
      · exact Or.inl ((hm p).mpr (Or.inl a))
      · exact Or.inr a
    · exact Or.inl ((hm p).mpr (Or.inr ⟨hp, by omega, hw⟩))
  have hsv : ∀ p, svQ m S.2.1 S.2.2.1 = some p → p < pCnt P ∧ ∃ t, S.2.2.2 p = some t ∧ S.2.2.1 = t + pWt P p ∧ m + 1 ≤ S.2.2.1 := by
    intro p hp
    unfold svQ at hp
    by_cases c : S.2.2.1 = m
    · rw [if_pos c] at hp; cases hp
    · rw [if_neg c] at hp
      obtain ⟨a, t, b1, b2, b3⟩ := h5 p hp
      exact ⟨a, t, b1, b2, by omega⟩
  unfold stepD
  generalize belQ P bell m (preQ P who m S.1) = q at *
  generalize svQ m S.2.1 S.2.2.1 = sv at *
  cases sv with
  | some p0 =>
    show DI P who (m + 1) (q, some p0, S.2.2.1, S.2.2.2)
    exact ⟨hn, hfree, hall, fun p t e => by obtain ⟨a, b, c, d⟩ := h4 p t e; exact ⟨a, b, c, by omega⟩, hsv⟩
  | none =>
    cases q with
    | nil =>
      show DI P who (m + 1) ([], none, S.2.2.1, S.2.2.2)
      exact ⟨hn, hfree, hall, fun p t e => by obtain ⟨a, b, c, d⟩ := h4 p t e; exact ⟨a, b, c, by omega⟩, fun p e => by cases e⟩
    | cons p0 t0 =>
      show DI P who (m + 1) (t0, some p0, m + pWt P p0, upO S.2.2.2 p0 (some m))
      obtain ⟨hp0, hw0, hc0, hs0⟩ := hfree p0 (List.mem_cons_self ..)
      have hnd := List.nodup_cons.mp hn
      refine ⟨hnd.2, ?_, ?_, ?_, ?_⟩
      · intro p hp
        obtain ⟨a, b, c, d⟩ := hfree p (List.mem_cons_of_mem _ hp)
        refine ⟨a, b, c, ?_⟩
        show upO S.2.2.2 p0 (some m) p = none
        unfold upO
        rw [if_neg (fun e : p = p0 => hnd.1 (by rw [← e]; exact hp))]
        exact d
      · intro p hp hw hc
        show p ∈ t0 ∨ upO S.2.2.2 p0 (some m) p ≠ none
        unfold upO
        by_cases e : p = p0
        · rw [if_pos e]; exact Or.inr (by simp)
        · rw [if_neg e]
          rcases hall p hp hw hc with a | a
          · rcases List.mem_cons.mp a with b | b
            · exact absurd b e
            · exact Or.inl b
          · exact Or.inr a
      · intro p t e
        have e : upO S.2.2.2 p0 (some m) p = some t := e
        unfold upO at e
        by_cases c : p = p0
        · rw [if_pos c] at e
          cases e
          rw [c]
          exact ⟨hp0, hw0, by omega, by omega⟩
        · rw [if_neg c] at e
          obtain ⟨a, b, c, d⟩ := h4 p t e
          exact ⟨a, b, c, by omega⟩
      · intro p e
        cases (Option.some.inj e : p0 = p)
        refine ⟨hp0, m, ?_, rfl, ?_⟩
        · show upO S.2.2.2 p0 (some m) p0 = some m
          unfold upO
          rw [if_pos rfl]
        · show m + 1 ≤ m + pWt P p0
          have := (hP.2.2 p0 hp0).2.2.1
          omega
theorem DI_day {P : Pln} (hP : pOK P) (who bell : Nat → Bool) : ∀ m, DI P who m (dayAt P who bell m)
  | 0 => DI_0 P who bell
  | m + 1 => DI_step hP (DI_day hP who bell m)
/-! what was served stays so -/
theorem keep_step {P : Pln} {who bell : Nat → Bool} {m : Nat} {S : Dst} (h : DI P who m S) {p t : Nat} (e : S.2.2.2 p = some t) : (stepD P who bell m S).2.2.2 p = some t := by
  obtain ⟨q1, q2⟩ := preQ_of h
  obtain ⟨h1, h2, h3, h4, h5⟩ := h
  have hp : p ∉ belQ P bell m (preQ P who m S.1) := by
    intro hp
    rcases (q2 p).mp ((belQ_perm P bell m _).mem_iff.mp hp) with a | a
    · have := (h2 p a).2.2.2; rw [e] at this; cases this
    · have := h4 p t e; omega
  unfold stepD
  generalize belQ P bell m (preQ P who m S.1) = q at *
  generalize svQ m S.2.1 S.2.2.1 = sv at *
  cases sv with
  | some p0 => exact e
  | none =>
    cases q with
    | nil => exact e
    | cons p0 t0 =>
      show upO S.2.2.2 p0 (some m) p = some t
      unfold upO
      rw [if_neg (fun c => hp (by rw [c]; exact List.mem_cons_self ..))]
      exact e
theorem keep_day {P : Pln} (hP : pOK P) {who bell : Nat → Bool} {m p t : Nat} (e : (dayAt P who bell m).2.2.2 p = some t) : ∀ {k : Nat}, m ≤ k → (dayAt P who bell k).2.2.2 p = some t
  | 0, h => by have : m = 0 := by omega
               subst this; exact e
  | k + 1, h => by
    rcases Nat.lt_or_ge k m with c | c
    · have : m = k + 1 := by omega
      subst this; exact e
    · exact keep_step (DI_day hP who bell k) (keep_day hP e c)
/-! all are served -/
def pot (m : Nat) (S : Dst) : Nat := 9 * S.1.length + (match S.2.1 with | some _ => S.2.2.1 - m | none => 0)
theorem roS_len {P : Pln} {m : Nat} {q : List Nat} {p : Nat} (h : q.Nodup) : (roS P m q p).length = q.length := by
  unfold roS
  by_cases c : pOt P p = some m ∧ p ∈ q
  · rw [if_pos c]
    obtain ⟨k, hk, e⟩ := List.getElem_of_mem c.2
    have he : q[k]? = some p := by rw [List.getElem?_eq_getElem hk, e]
    rw [← eraseIdx_filter h he, List.length_append, List.length_eraseIdx_of_lt hk, List.length_singleton]
    omega
  · rw [if_neg c]
theorem roQ_len {P : Pln} {m : Nat} : ∀ (d i : Nat) (q : List Nat), q.Nodup → (roQ P m d i q).length = q.length
  | 0, _, _, _ => rfl
  | d + 1, i, q, h => (roQ_len d (i + 1) _ (roS_nd h)).trans (roS_len h)
theorem roQ_id {P : Pln} {m : Nat} : ∀ (d i : Nat) (q : List Nat), (∀ p, p < i + d → pOt P p ≠ some m) → roQ P m d i q = q
  | 0, _, _, _ => rfl
  | d + 1, i, q, h => by
    have e : roS P m q i = q := by unfold roS; rw [if_neg (fun c => h i (by omega) c.1)]
    show roQ P m d (i + 1) (roS P m q i) = q
    rw [e]
    exact roQ_id d (i + 1) q (fun p hp => h p (by omega))
theorem coQ_id {P : Pln} {who : Nat → Bool} {m : Nat} : ∀ (d i : Nat) (q : List Nat), (∀ p, p < i + d → pCm P p ≠ m) → coQ P who m d i q = q
  | 0, _, _, _ => rfl
  | d + 1, i, q, h => by
    have e : coS P who m q i = q := by unfold coS; rw [if_neg (fun c => h i (by omega) c.1)]
    show coQ P who m d (i + 1) (coS P who m q i) = q
    rw [e]
    exact coQ_id d (i + 1) q (fun p hp => h p (by omega))
theorem preQ_id {P : Pln} {who : Nat → Bool} {m : Nat} {q : List Nat} (h1 : ∀ p, p < pCnt P → pOt P p ≠ some m) (h2 : ∀ p, p < pCnt P → pCm P p ≠ m) : preQ P who m q = q := by
  unfold preQ
  rw [roQ_id _ _ _ (fun p hp => h1 p (by omega)), coQ_id _ _ _ (fun p hp => h2 p (by omega))]
theorem pot_step {P : Pln} (hP : pOK P) {who bell : Nat → Bool} {m : Nat} {S : Dst} (h : DI P who m S) (hm : 60 ≤ m) : pot (m + 1) (stepD P who bell m S) ≤ pot m S - 1 := by
  have hlen : (belQ P bell m (preQ P who m S.1)).length = S.1.length := by
    rw [(belQ_perm P bell m _).length_eq]
    unfold preQ
    rw [coQ_id _ _ _ (fun p hp => by have := (hP.2.2 p (by omega)).2.1; omega), roQ_len _ _ _ h.1]
  have hsub := fun p (hp : p ∈ belQ P bell m (preQ P who m S.1)) => (preQ_of h).2 p |>.mp ((belQ_perm P bell m _).mem_iff.mp hp)
  have h2 := h.2.1
  have h5 := h.2.2.2.2
  unfold stepD
  generalize belQ P bell m (preQ P who m S.1) = q at *
  unfold svQ
  by_cases c : S.2.2.1 = m
  · rw [if_pos c]
    cases q with
    | nil =>
      show 9 * 0 + 0 ≤ _
      omega
    | cons p0 t0 =>
      show 9 * t0.length + (m + pWt P p0 - (m + 1)) ≤ _
      have hp0 : p0 < pCnt P := by
        rcases hsub p0 (List.mem_cons_self ..) with a | a
        · exact (h2 p0 a).1
        · exact a.1
      have hw := (hP.2.2 p0 hp0).2.2
      rw [List.length_cons] at hlen
      unfold pot
      rw [← hlen]
      omega
  · rw [if_neg c]
    cases hs : S.2.1 with
    | some p1 =>
      obtain ⟨-, t, b1, b2, b3⟩ := h5 p1 hs
      show 9 * q.length + (S.2.2.1 - (m + 1)) ≤ _
      unfold pot
      rw [hs, hlen]
      show 9 * S.1.length + (S.2.2.1 - (m + 1)) ≤ 9 * S.1.length + (S.2.2.1 - m) - 1
      omega
    | none =>
      cases q with
      | nil =>
        show 9 * 0 + 0 ≤ _
        omega
      | cons p0 t0 =>
        show 9 * t0.length + (m + pWt P p0 - (m + 1)) ≤ _
        have hp0 : p0 < pCnt P := by
          rcases hsub p0 (List.mem_cons_self ..) with a | a
          · exact (h2 p0 a).1
          · exact a.1
        have hw := (hP.2.2 p0 hp0).2.2
        rw [List.length_cons] at hlen
        unfold pot
        rw [← hlen]
        omega
theorem pot_60 {P : Pln} (hP : pOK P) {who : Nat → Bool} {S : Dst} (h : DI P who 60 S) : pot 60 S ≤ 63 := by
  obtain ⟨h1, h2, h3, h4, h5⟩ := h
  unfold pot
  cases hs : S.2.1 with
  | none =>
    show 9 * S.1.length + 0 ≤ 63
    have := nd_len h1 (fun x hx => (h2 x hx).1)
    have := hP.2.1
    omega
  | some p =>
    obtain ⟨hp, t, b1, b2, b3⟩ := h5 p hs
    have hw := (hP.2.2 p hp).2.2
    have ht := (h4 p t b1).2.2.2
    have hnd : (p :: S.1).Nodup := List.nodup_cons.mpr ⟨fun hm => (by have := (h2 p hm).2.2.2; rw [b1] at this; cases this), h1⟩
    have := nd_len hnd (fun x hx => by
      rcases List.mem_cons.mp hx with a | a
      · rw [a]; exact hp
      · exact (h2 x a).1)
    rw [List.length_cons] at this
    have := hP.2.1
    show 9 * S.1.length + (S.2.2.1 - 60) ≤ 63
    omega
theorem pot_day {P : Pln} (hP : pOK P) (who bell : Nat → Bool) : ∀ k, pot (60 + k) (dayAt P who bell (60 + k)) ≤ 63 - k
  | 0 => pot_60 hP (DI_day hP who bell 60)
  | k + 1 => by
    have h1 := pot_day hP who bell k
    have h2 := pot_step hP (bell := bell) (DI_day hP who bell (60 + k)) (by omega)
    have e : pot (60 + (k + 1)) (dayAt P who bell (60 + (k + 1))) = pot (60 + k + 1) (stepD P who bell (60 + k) (dayAt P who bell (60 + k))) := rfl
    rw [e]
    omega
theorem all_served {P : Pln} (hP : pOK P) {who bell : Nat → Bool} {p : Nat} (hp : p < pCnt P) (hw : who p = true) : ∃ t, t < 200 ∧ pCm P p ≤ t ∧ ∀ k, 123 ≤ k → (dayAt P who bell k).2.2.2 p = some t := by
  have hd := DI_day hP who bell 123
  have h0 : pot 123 (dayAt P who bell 123) ≤ 63 - 63 := pot_day hP who bell 63
  have hnil : (dayAt P who bell 123).1 = [] := by
    unfold pot at h0
    exact List.length_eq_zero_iff.mp (by omega)
  have hc := (hP.2.2 p hp).2.1
  rcases hd.2.2.1 p hp hw (by omega) with a | a
  · rw [hnil] at a; exact absurd a List.not_mem_nil
  · cases e : (dayAt P who bell 123).2.2.2 p with
    | none => exact absurd e a
    | some t =>
      have := hd.2.2.2.1 p t e
      exact ⟨t, by omega, this.2.2.1, fun k hk => keep_day hP e hk⟩
/-- when one is served, of all minutes -/
def servedT (P : Pln) (who bell : Nat → Bool) (p : Nat) : Nat := ((dayAt P who bell 200).2.2.2 p).getD 0
theorem servedT_of {P : Pln} (hP : pOK P) {who bell : Nat → Bool} {p : Nat} (hp : p < pCnt P) (hw : who p = true) : (dayAt P who bell 200).2.2.2 p = some (servedT P who bell p) ∧ pCm P p ≤ servedT P who bell p ∧ servedT P who bell p < 200 := by
  obtain ⟨t, h1, h2, h3⟩ := all_served hP (bell := bell) hp hw
  have e := h3 200 (by omega)
  unfold servedT
  rw [e]
  exact ⟨rfl, h2, h1⟩
theorem servedT_at {P : Pln} (hP : pOK P) {who bell : Nat → Bool} {m p t : Nat} (hm : m ≤ 200) (e : (dayAt P who bell m).2.2.2 p = some t) : servedT P who bell p = t := by
  unfold servedT
  rw [keep_day hP e hm]
  rfl
/-- bells agree up to a minute: so does the day -/
theorem day_same {P : Pln} {who bell bell' : Nat → Bool} : ∀ (k : Nat), (∀ m, m < k → bell m = bell' m) → dayAt P who bell k = dayAt P who bell' k
  | 0, _ => rfl
  | k + 1, h => by
    show stepD P who bell k _ = stepD P who bell' k _
    rw [day_same k (fun m hm => h m (by omega))]
    unfold stepD belQ
    rw [h k (by omega)]

/-! ===== rows of the machine as lists ===== -/
theorem li0 : (0 : Int32) = nI 0 := rfl
theorem li1 : (1 : Int32) = nI 1 := rfl
theorem li2 : (2 : Int32) = nI 2 := rfl
theorem li7 : (7 : Int32) = nI 7 := rfl
theorem ck_nI {k n : Nat} (h : k < n) (hn : n < 2 ^ 31) : ck (nI k) n = true := ck_of (vp_in_nI h hn)
def Rq (a : Nat → Int32) (q : List Nat) : Prop := ∀ i x, q[i]? = some x → a i = nI x
theorem upd_eq (f : Nat → Int32) (k : Nat) (x : Int32) (j : Nat) : upd f k x j = if j = k then x else f j := rfl
def shR (f : Nat → Int32) (pl k : Nat) : Nat → Int32 := fun j => if pl < j ∧ j ≤ k then f (j - 1) else f j
theorem shR_0 (f : Nat → Int32) (pl : Nat) : shR f pl pl = f := by
  funext j
  unfold shR
  rw [if_neg (by omega)]
theorem shR_s (f : Nat → Int32) {pl k : Nat} (h : pl ≤ k) : shR (upd f (k + 1) (f k)) pl k = shR f pl (k + 1) := by
  funext j
  unfold shR
  simp only [upd_eq]
  by_cases h1 : j = k + 1
  · subst h1
    rw [if_neg (by omega), if_pos rfl, if_pos (by omega)]
    rfl
  · by_cases h2 : pl < j ∧ j ≤ k
    · rw [if_pos h2, if_neg (by omega), if_pos (by omega)]
    · rw [if_neg h2, if_neg h1, if_neg (by omega)]
def shL (f : Nat → Int32) (k n : Nat) : Nat → Int32 := fun j => if k ≤ j ∧ j < n then f (j + 1) else f j
theorem shL_0 (f : Nat → Int32) {k n : Nat} (h : n ≤ k) : shL f k n = f := by
  funext j
  unfold shL
  rw [if_neg (by omega)]
theorem shL_s (f : Nat → Int32) {k n : Nat} (h : k < n) : shL (upd f k (f (k + 1))) (k + 1) n = shL f k n := by
  funext j
  unfold shL
  simp only [upd_eq]
  by_cases h1 : j = k
  · subst h1
    rw [if_neg (by omega), if_pos rfl, if_pos (by omega)]
  · by_cases h2 : k + 1 ≤ j ∧ j < n
    · rw [if_pos h2, if_neg (by omega), if_pos (by omega)]
    · rw [if_neg h2, if_neg h1, if_neg (by omega)]
def rvF (f : Nat → Int32) (L i : Nat) : Nat → Int32 := fun j => if i ≤ j ∧ j < L - i then f (L - 1 - j) else f j
theorem rvF_0 (f : Nat → Int32) {L i : Nat} (h : L / 2 ≤ i) : rvF f L i = f := by
  funext j
  unfold rvF
  by_cases h1 : i ≤ j ∧ j < L - i
  · rw [if_pos h1, show L - 1 - j = j by omega]
  · rw [if_neg h1]
theorem rvF_s (f : Nat → Int32) {L i : Nat} (h : i < L / 2) : rvF (upd (upd f i (f (L - 1 - i))) (L - 1 - i) (f i)) L (i + 1) = rvF f L i := by
  funext j
  unfold rvF
  simp only [upd_eq]
  by_cases h1 : j = i
  · subst h1
    rw [if_neg (by omega), if_neg (by omega), if_pos rfl, if_pos (by omega)]
  · by_cases h3 : j = L - 1 - i
    · subst h3
      rw [if_neg (by omega), if_pos rfl, if_pos (by omega), show L - 1 - (L - 1 - i) = i by omega]
    · by_cases h2 : i + 1 ≤ j ∧ j < L - (i + 1)
      · rw [if_pos h2, if_neg (by omega), if_neg (by omega), if_pos (by omega)]
      · rw [if_neg h2, if_neg h3, if_neg h1, if_neg (by omega)]
theorem Rq_ins {a : Nat → Int32} {q : List Nat} {k p : Nat} (h : Rq a q) (hk : k ≤ q.length) : Rq (upd (shR a k q.length) k (nI p)) (q.insertIdx k p) := by
  intro i x hx
  rw [List.getElem?_insertIdx] at hx
  rw [upd_eq]
  by_cases h1 : i < k
  · rw [if_pos h1] at hx
    rw [if_neg (by omega)]
    unfold shR
    rw [if_neg (by omega)]
    exact h i x hx
  · rw [if_neg h1] at hx
    by_cases h2 : i = k
    · rw [if_pos h2, if_pos (by omega)] at hx
      rw [if_pos h2]
      cases hx
      rfl
    · rw [if_neg h2] at hx
      rw [if_neg h2]
      have hl : i - 1 < q.length := (List.getElem?_eq_some_iff.mp hx).1
      unfold shR
      rw [if_pos (by omega)]
      exact h (i - 1) x hx
theorem Rq_del {a : Nat → Int32} {q : List Nat} {k : Nat} (h : Rq a q) : Rq (shL a k (q.length - 1)) (q.eraseIdx k) := by
  intro i x hx
  rw [List.getElem?_eraseIdx] at hx
  unfold shL
  by_cases h1 : i < k
  · rw [if_pos h1] at hx
    rw [if_neg (by omega)]
    exact h i x hx
  · rw [if_neg h1] at hx
    have hl : i + 1 < q.length := (List.getElem?_eq_some_iff.mp hx).1
    rw [if_pos (by omega)]
    exact h (i + 1) x hx
theorem Rq_rev {a : Nat → Int32} {q : List Nat} {L : Nat} (h : Rq a q) (hL : L ≤ q.length) : Rq (rvF a L 0) ((q.take L).reverse ++ q.drop L) := by
  intro i x hx
  have hlen : (q.take L).reverse.length = L := by rw [List.length_reverse, List.length_take]; omega
  unfold rvF
  by_cases h1 : i < L
  · rw [List.getElem?_append_left (by omega), List.getElem?_reverse (by rw [List.length_take]; omega), List.length_take, List.getElem?_take] at hx
    rw [show min L q.length = L by omega, if_pos (by omega)] at hx
    rw [if_pos (by omega)]
    exact h _ x hx
  · rw [List.getElem?_append_right (by omega), hlen, List.getElem?_drop] at hx
    rw [if_neg (by omega)]
    rw [show L + (i - L) = i by omega] at hx
    exact h i x hx
theorem Rq_cut {a : Nat → Int32} {q : List Nat} (h : Rq a q) (n : Nat) : Rq a (q.take n) := by
  intro i x hx
  rw [List.getElem?_take] at hx
  by_cases h1 : i < n
  · rw [if_pos h1] at hx; exact h i x hx
  · rw [if_neg h1] at hx; cases hx
/-! the class's Line -/
theorem Li_ins_loop (pl p : Nat) (sz : Int32) : ∀ (d : Nat) (f : Nat → Int32), pl + d ≤ 6 → Li_insert_l27 (nI pl) (nI p) (nI (pl + d)) sz f = Li_insert_j52 (nI pl) (nI p) sz (shR f pl (pl + d))
  | 0, f, h => by
    rw [Li_insert_l27_eq]
    unfold Li_insert_b27
    try simp only [lt]
    rw [if_pos (nI_le (by omega) (by omega)), pu_ex]
    show Li_insert_j52 _ _ _ f = Li_insert_j52 _ _ _ (shR f pl pl)
    rw [shR_0]
  | d + 1, f, h => by
    have e1 : nI (pl + (d + 1)) - 1 = nI (pl + d) := nI_pred _
    have e2 : nI (pl + (d + 1)) + (-1) = nI (pl + d) := pk_m1 _
    rw [Li_insert_l27_eq]
    unfold Li_insert_b27
    try simp only [lt]
    rw [if_neg (nI_ge (by omega) (by omega)), e1, if_pos (ck_nI (by omega) (by omega)), e2, if_pos (ck_nI (by omega) (by omega))]
    simp only [pu_jp, Li_insert_l27_fd]
    rw [nI_clamp (by omega), nI_clamp (by omega), Li_ins_loop pl p sz d _ (by omega)]
    show Li_insert_j52 _ _ _ (shR (upd f (pl + d + 1) (f (pl + d))) pl (pl + d)) = Li_insert_j52 _ _ _ (shR f pl (pl + d + 1))
    rw [shR_s f (by omega)]
theorem Li_insert_ok {a : Nat → Int32} {q : List Nat} {k p : Nat} (h : Rq a q) (hk : k ≤ q.length) (hq : q.length < 7) : ∃ a', Li_insert (nI k) (nI p) (nI q.length) a = some (nI (q.insertIdx k p).length, a') ∧ Rq a' (q.insertIdx k p) := by
  refine ⟨_, ?_, Rq_ins h hk⟩
  unfold Li_insert
  rw [if_neg (nI_pos (by omega)), if_neg (nI_nlt hk (by omega)), li7, if_pos (nI_lt hq (by omega))]
  obtain ⟨d, hd⟩ : ∃ d, q.length = k + d := ⟨q.length - k, by omega⟩
  have e := Li_ins_loop k p (nI q.length) d a (by omega)
  rw [← hd] at e
  rw [e]
  unfold Li_insert_j52
  try simp only [lt]
  rw [if_pos (ck_nI (by omega) (by omega)), nI_clamp (by omega)]
  try simp only [lt]
  rw [nI_1, List.length_insertIdx_of_le_length hk]
theorem Li_rem_loop (pl : Int32) (x : Int32) (n : Nat) (hn : n ≤ 6) : ∀ (d k : Nat) (f : Nat → Int32), n = k + d → Li_remove_l34 pl x (nI k) (nI n) f = some (x, nI n, shL f k n)
  | 0, k, f, h => by
    rw [Li_remove_l34_eq]
    unfold Li_remove_b34
    try simp only [lt]
    rw [if_pos (nI_le (by omega) (by omega)), pu_rt, shL_0 f (by omega)]
  | d + 1, k, f, h => by
    rw [Li_remove_l34_eq]
    unfold Li_remove_b34
    try simp only [lt]
    rw [if_neg (nI_ge (by omega) (by omega)), nI_1, if_pos (ck_nI (by omega) (by omega)), if_pos (ck_nI (by omega) (by omega))]
    simp only [pu_jp, Li_remove_l34_fd]
    rw [nI_clamp (by omega), nI_clamp (by omega), Li_rem_loop pl x n hn d (k + 1) _ (by omega), shL_s f (by omega)]
theorem Li_remove_ok {a : Nat → Int32} {q : List Nat} {k x : Nat} (h : Rq a q) (hk : q[k]? = some x) (hq : q.length ≤ 7) : ∃ a', Li_remove (nI k) (nI q.length) a = some (nI x, nI (q.eraseIdx k).length, a') ∧ Rq a' (q.eraseIdx k) := by
  have hl : k < q.length := (List.getElem?_eq_some_iff.mp hk).1
  refine ⟨_, ?_, Rq_del h⟩
  unfold Li_remove
  rw [if_neg (nI_pos (by omega)), if_pos (nI_lt hl (by omega)), if_pos (ck_nI (by omega) (by omega)), nI_clamp (by omega)]
  obtain ⟨n, hn⟩ : ∃ n, q.length = n + 1 := ⟨q.length - 1, by omega⟩
  simp only [lt]
  rw [h k x hk, hn, nI_pred, Li_rem_loop _ _ n (by omega) (n - k) k a (by omega), List.length_eraseIdx_of_lt hl, hn]
  rfl
theorem Li_remove_no {a : Nat → Int32} {n k : Nat} (hk : n ≤ k) (hb : k < 2 ^ 31) : Li_remove (nI k) (nI n) a = some (-9, nI n, a) := by
  unfold Li_remove
  rw [if_neg (nI_pos hb), if_neg (nI_nlt hk hb)]
theorem Li_rev_loop (L : Nat) (hL : L ≤ 7) : ∀ (d i : Nat) (f : Nat → Int32), L / 2 ≤ i + d → i ≤ L / 2 → Li_reverse_l2 (nI L) (nI i) f = some (rvF f L i)
  | 0, i, f, h, hi => by
    rw [Li_reverse_l2_eq]
    unfold Li_reverse_b2
    try simp only [lt]
    rw [li2, pk_div (by omega) (by omega) (by omega), if_pos (nI_le (by omega) (by omega)), pu_rt, rvF_0 f (by omega)]
  | d + 1, i, f, h, hi => by
    rcases Nat.lt_or_ge i (L / 2) with c | c
    · rw [Li_reverse_l2_eq]
      unfold Li_reverse_b2
      try simp only [lt]
      rw [li2, pk_div (by omega) (by omega) (by omega), if_neg (nI_ge c (by omega)), li1, pk_sub (show 1 ≤ L by omega), pk_sub (show i ≤ L - 1 by omega)]
      simp only [if_pos (ck_nI (show i < 7 by omega) (by omega)), if_pos (ck_nI (show L - 1 - i < 7 by omega) (by omega)), lt, pu_jp, Li_reverse_l2_fd, ← li1, nI_1]
      rw [nI_clamp (by omega), nI_clamp (by omega), Li_rev_loop L hL d (i + 1) _ (by omega) (by omega), rvF_s f c]
    · rw [Li_reverse_l2_eq]
      unfold Li_reverse_b2
      try simp only [lt]
      rw [li2, pk_div (by omega) (by omega) (by omega), if_pos (nI_le c (by omega)), pu_rt, rvF_0 f c]
theorem Li_reverse_ok {a : Nat → Int32} {q : List Nat} {L : Nat} (h : Rq a q) (hL : L ≤ q.length) (hq : q.length ≤ 7) : ∃ a', Li_reverse (nI L) a = some a' ∧ Rq a' ((q.take L).reverse ++ q.drop L) := by
  refine ⟨_, ?_, Rq_rev h hL⟩
  unfold Li_reverse
  exact Li_rev_loop L (by omega) (L / 2) 0 a (by omega) (by omega)
/-- how the law turns a queue -/
def turnQ (law : Nat) (q : List Nat) : List Nat :=
  if law = 0 then q.reverse else if law = 1 then (q.take (q.length / 2)).reverse ++ q.drop (q.length / 2) else (match q.getLast? with | none => [] | some x => x :: q.dropLast)
theorem turnQ_short {law : Nat} {q : List Nat} (h : q.length ≤ 1) : turnQ law q = q := by
  match q, h with
  | [], _ => unfold turnQ; simp
  | [x], _ => unfold turnQ; simp
theorem turnQ_len (law : Nat) (q : List Nat) : (turnQ law q).length = q.length := by
  unfold turnQ
  by_cases h0 : law = 0
  · rw [if_pos h0, List.length_reverse]
  · rw [if_neg h0]
    by_cases h1 : law = 1
    · rw [if_pos h1, List.length_append, List.length_reverse, ← List.length_append, List.take_append_drop]
    · rw [if_neg h1]
      cases hq : q.getLast? with
      | none => rw [List.getLast?_eq_none_iff.mp hq]
      | some x =>
        have hne : q ≠ [] := fun e => by rw [e] at hq; cases hq
        have : 0 < q.length := List.length_pos_iff.mpr hne
        show (x :: q.dropLast).length = q.length
        rw [List.length_cons, List.length_dropLast]
        omega
theorem Li_turn_ok {a : Nat → Int32} {q : List Nat} {law : Nat} (h : Rq a q) (hl : law ≤ 2) (hq : q.length ≤ 7) : ∃ a', Li_turn (nI law) (nI q.length) a = some (nI (turnQ law q).length, a') ∧ Rq a' (turnQ law q) := by
  unfold Li_turn
  rcases Nat.lt_or_ge q.length 2 with c | c
  · rw [if_neg (by rw [li2]; exact nI_ge c (by omega)), turnQ_short (by omega)]
    exact ⟨a, rfl, h⟩
  · rw [if_pos (by rw [li2]; exact nI_le c (by omega))]
    rw [turnQ_len]
    by_cases h2 : law = 2
    · subst h2
      rw [if_pos (show nI 2 = 2 from rfl), li1, pk_sub (show 1 ≤ q.length by omega)]
      have hne : q ≠ [] := fun e => by rw [e] at c; simp at c
      have hlast : q[q.length - 1]? = some (q.getLast hne) := by rw [← List.getLast?_eq_getElem?, List.getLast?_eq_some_getLast hne]
      obtain ⟨a1, e1, r1⟩ := Li_remove_ok h hlast hq
      have hd : q.eraseIdx (q.length - 1) = q.dropLast := List.eraseIdx_length_sub_one
      rw [hd] at e1 r1
      have hlen : q.dropLast.length = q.length - 1 := List.length_dropLast ..
      obtain ⟨a2, e2, r2⟩ := Li_insert_ok (k := 0) (p := q.getLast hne) r1 (by omega) (by omega)
      refine ⟨a2, ?_, ?_⟩
      · rw [e1]
        simp only [Option.bind_some]
        rw [li0, e2]
        simp only [Option.bind_some]
        rw [List.length_insertIdx_of_le_length (by omega), hlen, show q.length - 1 + 1 = q.length by omega]
      · unfold turnQ
        rw [if_neg (by omega), if_neg (by omega), List.getLast?_eq_some_getLast hne]
        rw [List.insertIdx_zero] at r2
        exact r2
    · have h2' : ¬ nI law = 2 := by rw [li2, nI_eq (by omega) (by omega)]; exact h2
      rw [if_neg h2']
      by_cases h1 : law = 1
      · subst h1
        rw [if_pos (show nI 1 = 1 from rfl), li2, pk_div (by omega) (by omega) (by omega)]
        obtain ⟨a1, e1, r1⟩ := Li_reverse_ok (L := q.length / 2) h (by omega) hq
        refine ⟨a1, ?_, ?_⟩
        · rw [e1]; rfl
        · unfold turnQ
          rw [if_neg (by omega), if_pos rfl]
          exact r1
      · have h1' : ¬ nI law = 1 := by rw [li1, nI_eq (by omega) (by omega)]; exact h1
        rw [if_neg h1']
        have h0 : law = 0 := by omega
        subst h0
        obtain ⟨a1, e1, r1⟩ := Li_reverse_ok (L := q.length) h (by omega) hq
        refine ⟨a1, ?_, ?_⟩
        · rw [e1]; rfl
        · unfold turnQ
          rw [if_pos rfl]
          rw [List.take_length, List.drop_length, List.append_nil] at r1
          exact r1
/-! the reference's queue -/
theorem Mo_st_loop (pl p : Nat) (sz : Int32) : ∀ (d : Nat) (f : Nat → Int32), pl + d ≤ 6 → Mo_standAt_l5 (nI pl) (nI p) (nI (pl + d)) sz f = Mo_standAt_j30 (nI pl) (nI p) sz (shR f pl (pl + d))
  | 0, f, h => by
    rw [Mo_standAt_l5_eq]
    unfold Mo_standAt_b5
    try simp only [lt]
    rw [if_pos (nI_le (by omega) (by omega)), pu_ex]
    show Mo_standAt_j30 _ _ _ f = Mo_standAt_j30 _ _ _ (shR f pl pl)
    rw [shR_0]
  | d + 1, f, h => by
    have e1 : nI (pl + (d + 1)) - 1 = nI (pl + d) := nI_pred _
    have e2 : nI (pl + (d + 1)) + (-1) = nI (pl + d) := pk_m1 _
    rw [Mo_standAt_l5_eq]
    unfold Mo_standAt_b5
    try simp only [lt]
    rw [if_neg (nI_ge (by omega) (by omega)), e1, if_pos (ck_nI (by omega) (by omega)), e2, if_pos (ck_nI (by omega) (by omega))]
    simp only [pu_jp, Mo_standAt_l5_fd]
    rw [nI_clamp (by omega), nI_clamp (by omega), Mo_st_loop pl p sz d _ (by omega)]
    show Mo_standAt_j30 _ _ _ (shR (upd f (pl + d + 1) (f (pl + d))) pl (pl + d)) = Mo_standAt_j30 _ _ _ (shR f pl (pl + d + 1))
    rw [shR_s f (by omega)]
theorem Mo_standAt_ok {a : Nat → Int32} {q : List Nat} {k p : Nat} (h : Rq a q) (hk : k ≤ q.length) (hq : q.length < 7) : ∃ a', Mo_standAt (nI k) (nI p) (nI q.length) a = some (nI (q.insertIdx k p).length, a') ∧ Rq a' (q.insertIdx k p) := by
  refine ⟨_, ?_, Rq_ins h hk⟩
  unfold Mo_standAt
  obtain ⟨d, hd⟩ : ∃ d, q.length = k + d := ⟨q.length - k, by omega⟩
  have e := Mo_st_loop k p (nI q.length) d a (by omega)
  rw [← hd] at e
  rw [e]
  unfold Mo_standAt_j30
  try simp only [lt]
  rw [if_pos (ck_nI (by omega) (by omega)), nI_clamp (by omega)]
  try simp only [lt]
  rw [nI_1, List.length_insertIdx_of_le_length hk]
theorem Mo_to_loop (pl : Int32) (n : Nat) (hn : n ≤ 6) : ∀ (d k : Nat) (f : Nat → Int32), n = k + d → Mo_takeOut_l2 pl (nI k) (nI (n + 1)) f = some (nI n, shL f k n)
  | 0, k, f, h => by
    rw [Mo_takeOut_l2_eq]
    unfold Mo_takeOut_b2
    try simp only [lt]
    rw [nI_1, if_pos (nI_le (by omega) (by omega))]
    simp only [pu_rt]
    rw [nI_pred, shL_0 f (by omega)]
  | d + 1, k, f, h => by
    rw [Mo_takeOut_l2_eq]
    unfold Mo_takeOut_b2
    try simp only [lt]
    rw [nI_1, if_neg (nI_ge (by omega) (by omega)), if_pos (ck_nI (by omega) (by omega)), if_pos (ck_nI (by omega) (by omega))]
    simp only [pu_jp, Mo_takeOut_l2_fd]
    rw [nI_clamp (by omega), nI_clamp (by omega), Mo_to_loop pl n hn d (k + 1) _ (by omega), shL_s f (by omega)]
theorem Mo_takeOut_ok {a : Nat → Int32} {q : List Nat} {k : Nat} (h : Rq a q) (hk : k < q.length) (hq : q.length ≤ 7) : ∃ a', Mo_takeOut (nI k) (nI q.length) a = some (nI (q.eraseIdx k).length, a') ∧ Rq a' (q.eraseIdx k) := by
  refine ⟨_, ?_, Rq_del h⟩
  unfold Mo_takeOut
  obtain ⟨n, hn⟩ : ∃ n, q.length = n + 1 := ⟨q.length - 1, by omega⟩
  rw [hn, Mo_to_loop _ n (by omega) (n - k) k a (by omega), List.length_eraseIdx_of_lt hk, hn]
  rfl
theorem Mo_tf_loop (L : Nat) (hL : L ≤ 7) : ∀ (d i : Nat) (f : Nat → Int32), L / 2 ≤ i + d → i ≤ L / 2 → Mo_turnFirst_l2 (nI L) (nI i) f = some (rvF f L i)
  | 0, i, f, h, hi => by
    rw [Mo_turnFirst_l2_eq]
    unfold Mo_turnFirst_b2
    try simp only [lt]
    rw [li2, pk_div (by omega) (by omega) (by omega), if_pos (nI_le (by omega) (by omega)), pu_rt, rvF_0 f (by omega)]
  | d + 1, i, f, h, hi => by
    rcases Nat.lt_or_ge i (L / 2) with c | c
    · rw [Mo_turnFirst_l2_eq]
      unfold Mo_turnFirst_b2
      try simp only [lt]
      rw [li2, pk_div (by omega) (by omega) (by omega), if_neg (nI_ge c (by omega)), li1, pk_sub (show 1 ≤ L by omega), pk_sub (show i ≤ L - 1 by omega)]
      simp only [if_pos (ck_nI (show i < 7 by omega) (by omega)), if_pos (ck_nI (show L - 1 - i < 7 by omega) (by omega)), lt, pu_jp, Mo_turnFirst_l2_fd, ← li1, nI_1]
      rw [nI_clamp (by omega), nI_clamp (by omega), Mo_tf_loop L hL d (i + 1) _ (by omega) (by omega), rvF_s f c]
    · rw [Mo_turnFirst_l2_eq]
      unfold Mo_turnFirst_b2
      try simp only [lt]
      rw [li2, pk_div (by omega) (by omega) (by omega), if_pos (nI_le c (by omega)), pu_rt, rvF_0 f c]
theorem Mo_turnFirst_ok {a : Nat → Int32} {q : List Nat} {L : Nat} (h : Rq a q) (hL : L ≤ q.length) (hq : q.length ≤ 7) : ∃ a', Mo_turnFirst (nI L) a = some a' ∧ Rq a' ((q.take L).reverse ++ q.drop L) := by
  refine ⟨_, ?_, Rq_rev h hL⟩
  unfold Mo_turnFirst
  exact Mo_tf_loop L (by omega) (L / 2) 0 a (by omega) (by omega)
theorem Mo_turnAll_ok {a : Nat → Int32} {q : List Nat} {law : Nat} (h : Rq a q) (hl : law ≤ 2) (hq : q.length ≤ 7) : ∃ a', Mo_turnAll (nI law) (nI q.length) a = some (nI (turnQ law q).length, a') ∧ Rq a' (turnQ law q) := by
  rw [turnQ_len]
  unfold Mo_turnAll
  by_cases h0 : law = 0
  · subst h0
    obtain ⟨a1, e1, r1⟩ := Mo_turnFirst_ok (L := q.length) h (by omega) hq
    refine ⟨a1, ?_, ?_⟩
    · rw [if_pos (show nI 0 = 0 from rfl), e1]
      simp only [Option.bind_some]
      unfold Mo_turnAll_j15
      try simp only [lt]
      rw [if_neg (by decide)]
      unfold Mo_turnAll_j33
      try simp only [lt]
      rw [if_neg (by decide)]
    · unfold turnQ
      rw [if_pos rfl]
      rw [List.take_length, List.drop_length, List.append_nil] at r1
      exact r1
  · have h0' : ¬ nI law = 0 := by rw [li0, nI_eq (by omega) (by omega)]; exact h0
    rw [if_neg h0']
    unfold Mo_turnAll_j15
    try simp only [lt]
    by_cases h1 : law = 1
    · subst h1
      rw [if_pos (show nI 1 = 1 from rfl), li2, pk_div (by omega) (by omega) (by omega)]
      obtain ⟨a1, e1, r1⟩ := Mo_turnFirst_ok (L := q.length / 2) h (by omega) hq
      refine ⟨a1, ?_, ?_⟩
      · rw [e1]
        simp only [Option.bind_some]
        unfold Mo_turnAll_j33
        try simp only [lt]
        rw [if_neg (by decide)]
      · unfold turnQ
        rw [if_neg (by omega), if_pos rfl]
        exact r1
    · have h1' : ¬ nI law = 1 := by rw [li1, nI_eq (by omega) (by omega)]; exact h1
      rw [if_neg h1']
      have h2 : law = 2 := by omega
      subst h2
      unfold Mo_turnAll_j33
      try simp only [lt]
      rw [if_pos (show nI 2 = 2 from rfl)]
      rcases Nat.eq_zero_or_pos q.length with c | c
      · rw [if_pos (by rw [c]; decide)]
        have : q = [] := List.length_eq_zero_iff.mp c
        subst this
        exact ⟨a, rfl, h⟩
      · rw [if_neg (nI_nle c (by omega)), li1, pk_sub (show 1 ≤ q.length by omega), if_pos (ck_nI (by omega) (by omega)), nI_clamp (by omega)]
        have hne : q ≠ [] := fun e => by rw [e] at c; simp at c
        have hlast : q[q.length - 1]? = some (q.getLast hne) := by rw [← List.getLast?_eq_getElem?, List.getLast?_eq_some_getLast hne]
        have hlen : q.dropLast.length = q.length - 1 := List.length_dropLast ..
        have r1 : Rq a q.dropLast := by rw [List.dropLast_eq_take]; exact Rq_cut h _
        obtain ⟨a2, e2, r2⟩ := Mo_standAt_ok (k := 0) (p := q.getLast hne) r1 (by omega) (by omega)
        refine ⟨a2, ?_, ?_⟩
        · try simp only [lt]
          rw [h _ _ hlast, li0, ← hlen, e2]
          simp only [Option.bind_some]
          rw [List.length_insertIdx_of_le_length (by omega), hlen, show q.length - 1 + 1 = q.length by omega]
        · unfold turnQ
          rw [if_neg (by omega), if_neg (by omega), List.getLast?_eq_some_getLast hne]
          rw [List.insertIdx_zero] at r2
          exact r2
/-! who stands where -/
theorem Li_po_loop {a : Nat → Int32} {q : List Nat} {p : Nat} (h : Rq a q) (hq : q.length ≤ 7) (hb : ∀ x ∈ q, x < 7) (hp : p < 7) : ∀ (d i : Nat), q.length = i + d → (∀ j, j < i → q[j]? ≠ some p) → (p ∉ q ∧ Li_placeOf_l2 (nI p) (nI q.length) a (nI i) = some (-9)) ∨ (∃ k, q[k]? = some p ∧ Li_placeOf_l2 (nI p) (nI q.length) a (nI i) = some (nI k))
  | 0, i, hd, hj => by
    refine Or.inl ⟨fun hm => ?_, ?_⟩
    · obtain ⟨j, hjl, e⟩ := List.getElem_of_mem hm
      exact hj j (by omega) (by rw [List.getElem?_eq_getElem hjl, e])
    · rw [Li_placeOf_l2_eq]
      unfold Li_placeOf_b2
      try simp only [lt]
      rw [if_pos (nI_le (by omega) (by omega)), pu_rt]
  | d + 1, i, hd, hj => by
    have hi : i < q.length := by omega
    have hx : q[i]? = some q[i] := List.getElem?_eq_getElem hi
    have hxb : q[i] < 7 := hb _ (List.getElem_mem hi)
    rw [Li_placeOf_l2_eq]
    unfold Li_placeOf_b2
    try simp only [lt]
    rw [if_neg (nI_ge (by omega) (by omega)), if_pos (ck_nI (by omega) (by omega)), nI_clamp (by omega), h i _ hx]
    by_cases c : q[i] = p
    · refine Or.inr ⟨i, by rw [hx, c], ?_⟩
      rw [if_pos (by rw [c]), pu_rt]
    · rw [if_neg (by rw [nI_eq (by omega) (by omega)]; exact c)]
      simp only [pu_jp, Li_placeOf_l2_fd]
      rw [nI_1]
      exact Li_po_loop h hq hb hp d (i + 1) (by omega) (fun j hj2 => by
        rcases Nat.lt_or_ge j i with c2 | c2
        · exact hj j c2
        · have : j = i := by omega
          subst this
          rw [hx]
          intro e
          exact c (Option.some.inj e))
theorem Li_placeOf_ok {a : Nat → Int32} {q : List Nat} {p : Nat} (h : Rq a q) (hq : q.length ≤ 7) (hb : ∀ x ∈ q, x < 7) (hp : p < 7) : (p ∉ q ∧ Li_placeOf (nI p) (nI q.length) a = some (-9)) ∨ (∃ k, q[k]? = some p ∧ Li_placeOf (nI p) (nI q.length) a = some (nI k)) := Li_po_loop h hq hb hp q.length 0 (by omega) (fun j hj => absurd hj (Nat.not_lt_zero j))
theorem Mo_po_loop {a : Nat → Int32} {q : List Nat} {p : Nat} (h : Rq a q) (hq : q.length ≤ 7) (hb : ∀ x ∈ q, x < 7) (hp : p < 7) : ∀ (d i : Nat), q.length = i + d → (∀ j, j < i → q[j]? ≠ some p) → (p ∉ q ∧ Mo_placeOf_l2 (nI p) (nI q.length) a (nI i) = some (-9)) ∨ (∃ k, q[k]? = some p ∧ Mo_placeOf_l2 (nI p) (nI q.length) a (nI i) = some (nI k))
  | 0, i, hd, hj => by
    refine Or.inl ⟨fun hm => ?_, ?_⟩
    · obtain ⟨j, hjl, e⟩ := List.getElem_of_mem hm
      exact hj j (by omega) (by rw [List.getElem?_eq_getElem hjl, e])
    · rw [Mo_placeOf_l2_eq]
      unfold Mo_placeOf_b2
      try simp only [lt]
      rw [if_pos (nI_le (by omega) (by omega)), pu_rt]
  | d + 1, i, hd, hj => by
    have hi : i < q.length := by omega
    have hx : q[i]? = some q[i] := List.getElem?_eq_getElem hi
    have hxb : q[i] < 7 := hb _ (List.getElem_mem hi)
    rw [Mo_placeOf_l2_eq]
    unfold Mo_placeOf_b2
    try simp only [lt]
    rw [if_neg (nI_ge (by omega) (by omega)), if_pos (ck_nI (by omega) (by omega)), nI_clamp (by omega), h i _ hx]
    by_cases c : q[i] = p
    · refine Or.inr ⟨i, by rw [hx, c], ?_⟩
      rw [if_pos (by rw [c]), pu_rt]
    · rw [if_neg (by rw [nI_eq (by omega) (by omega)]; exact c)]
      simp only [pu_jp, Mo_placeOf_l2_fd]
      rw [nI_1]
      exact Mo_po_loop h hq hb hp d (i + 1) (by omega) (fun j hj2 => by
        rcases Nat.lt_or_ge j i with c2 | c2
        · exact hj j c2
        · have : j = i := by omega
          subst this
          rw [hx]
          intro e
          exact c (Option.some.inj e))
theorem Mo_placeOf_ok {a : Nat → Int32} {q : List Nat} {p : Nat} (h : Rq a q) (hq : q.length ≤ 7) (hb : ∀ x ∈ q, x < 7) (hp : p < 7) : (p ∉ q ∧ Mo_placeOf (nI p) (nI q.length) a = some (-9)) ∨ (∃ k, q[k]? = some p ∧ Mo_placeOf (nI p) (nI q.length) a = some (nI k)) := Mo_po_loop h hq hb hp q.length 0 (by omega) (fun j hj => absurd hj (Nat.not_lt_zero j))
def Rn (a : Nat → Int32) (f : Nat → Nat) (n : Nat) : Prop := ∀ i, i < n → a i = nI (f i)
def cousinAt (kd : Nat → Nat) : List Nat → Nat
  | [] => 0
  | x :: t => if 0 < kd x then 1 else cousinAt kd t + 1
theorem cousinAt_le (kd : Nat → Nat) : ∀ q : List Nat, cousinAt kd q ≤ q.length
  | [] => Nat.le_refl 0
  | x :: t => by
    unfold cousinAt
    have := cousinAt_le kd t
    by_cases c : 0 < kd x
    · rw [if_pos c, List.length_cons]; omega
    · rw [if_neg c, List.length_cons]; omega
def placeQ (kd : Nat → Nat) (q : List Nat) (p : Nat) : Nat := if kd p = 1 then q.length - 1 else if kd p = 2 then cousinAt kd q else q.length
theorem placeQ_le (kd : Nat → Nat) (q : List Nat) (p : Nat) : placeQ kd q p ≤ q.length := by
  unfold placeQ
  by_cases c : kd p = 1
  · rw [if_pos c]; omega
  · rw [if_neg c]
    by_cases c2 : kd p = 2
    · rw [if_pos c2]; exact cousinAt_le kd q
    · rw [if_neg c2]; exact Nat.le_refl _
theorem Mo_pf_loop {a kinds : Nat → Int32} {kd : Nat → Nat} {q : List Nat} {n : Nat} (pp : Int32) (h : Rq a q) (hq : q.length ≤ 7) (hn : n ≤ 7) (hx : ∀ x ∈ q, x < n) (hk : Rn kinds kd n) (hkd : ∀ i, i < n → kd i ≤ 2) : ∀ (d i : Nat), q.length = i + d → Mo_placeFor_l40 pp (nI q.length) kinds a (nI i) = some (nI (i + cousinAt kd (q.drop i)))
  | 0, i, hd => by
    rw [Mo_placeFor_l40_eq]
    unfold Mo_placeFor_b40
    try simp only [lt]
    rw [if_pos (nI_le (by omega) (by omega)), pu_rt, List.drop_eq_nil_of_le (by omega)]
    show some (nI q.length) = some (nI (i + 0))
    rw [hd]
  | d + 1, i, hd => by
    have hi : i < q.length := by omega
    have hx1 : q[i]? = some q[i] := List.getElem?_eq_getElem hi
    have hxn : q[i] < n := hx _ (List.getElem_mem hi)
    have hkb := hkd _ hxn
    rw [Mo_placeFor_l40_eq]
    unfold Mo_placeFor_b40
    try simp only [lt]
    rw [if_neg (nI_ge (by omega) (by omega)), if_pos (ck_nI (by omega) (by omega)), nI_clamp (by omega), h i _ hx1, if_pos (ck_nI (by omega) (by omega)), nI_clamp (by omega), hk _ hxn, List.drop_eq_getElem_cons hi]
    unfold cousinAt
    by_cases c : 0 < kd q[i]
    · rw [if_neg (nI_nle c (by omega)), pu_rt, if_pos c, nI_1]
    · rw [if_pos (by rw [show kd q[i] = 0 by omega]; decide), if_neg c]
      simp only [pu_jp, Mo_placeFor_l40_fd]
      rw [nI_1, Mo_pf_loop pp h hq hn hx hk hkd d (i + 1) (by omega), show i + 1 + cousinAt kd (q.drop (i + 1)) = i + (cousinAt kd (q.drop (i + 1)) + 1) by omega]
theorem Mo_placeFor_ok {a kinds : Nat → Int32} {kd : Nat → Nat} {q : List Nat} {n p : Nat} (h : Rq a q) (hq : q.length ≤ 7) (hn : n ≤ 7) (hx : ∀ x ∈ q, x < n) (hk : Rn kinds kd n) (hkd : ∀ i, i < n → kd i ≤ 2) (hp : p < n) : Mo_placeFor (nI p) (nI q.length) kinds a = some (nI (placeQ kd q p)) := by
  have hpk := hkd p hp
  unfold Mo_placeFor
  rw [if_pos (ck_nI (by omega) (by omega)), nI_clamp (by omega), hk p hp]
  unfold placeQ
  by_cases c1 : kd p = 1
  · rw [if_pos c1, if_pos (by rw [c1]; rfl)]
    by_cases c0 : q.length = 0
    · rw [if_pos (by rw [c0]; rfl), c0]; rfl
    · rw [if_neg (nI_ne0 (by omega) (by omega)), li1, pk_sub (by omega)]
  · rw [if_neg c1, if_neg (by rw [li1, nI_eq (by omega) (by omega)]; exact c1), if_pos (ck_nI (by omega) (by omega))]
    by_cases c2 : kd p = 2
    · rw [if_pos c2, if_pos (by rw [c2]; rfl), li0, Mo_pf_loop _ h hq hn hx hk hkd q.length 0 (by omega), Nat.zero_add, List.drop_zero]
    · rw [if_neg c2, if_neg (by rw [li2, nI_eq (by omega) (by omega)]; exact c2)]
theorem Co_pf_loop {a kinds : Nat → Int32} {kd : Nat → Nat} {q : List Nat} {n : Nat} (pp : Int32) (h : Rq a q) (hq : q.length ≤ 7) (hn : n ≤ 7) (hx : ∀ x ∈ q, x < n) (hk : Rn kinds kd n) (hkd : ∀ i, i < n → kd i ≤ 2) (z : Int32) : ∀ (d i : Nat), q.length = i + d → Co_placeToStand_l41 pp z a kinds (nI q.length) (nI i) = some (nI (i + cousinAt kd (q.drop i)))
  | 0, i, hd => by
    rw [Co_placeToStand_l41_eq]
    unfold Co_placeToStand_b41
    try simp only [lt]
    rw [if_pos (nI_le (by omega) (by omega)), pu_rt, List.drop_eq_nil_of_le (by omega)]
    show some (nI q.length) = some (nI (i + 0))
    rw [hd]
  | d + 1, i, hd => by
    have hi : i < q.length := by omega
    have hx1 : q[i]? = some q[i] := List.getElem?_eq_getElem hi
    have hxn : q[i] < n := hx _ (List.getElem_mem hi)
    have hkb := hkd _ hxn
    rw [Co_placeToStand_l41_eq]
    unfold Co_placeToStand_b41
    try simp only [lt]
    rw [if_neg (nI_ge (by omega) (by omega)), if_pos (ck_nI (by omega) (by omega)), nI_clamp (by omega), h i _ hx1, if_pos (ck_nI (by omega) (by omega)), nI_clamp (by omega), hk _ hxn, List.drop_eq_getElem_cons hi]
    unfold cousinAt
    by_cases c : 0 < kd q[i]
    · rw [if_neg (by rw [li1]; exact nI_nlt (by omega) (by omega)), pu_rt, if_pos c, nI_1]
    · rw [if_pos (by rw [show kd q[i] = 0 by omega]; decide), if_neg c]
      simp only [pu_jp, Co_placeToStand_l41_fd]
      rw [nI_1, Co_pf_loop pp h hq hn hx hk hkd z d (i + 1) (by omega), show i + 1 + cousinAt kd (q.drop (i + 1)) = i + (cousinAt kd (q.drop (i + 1)) + 1) by omega]
theorem Co_placeToStand_ok {a kinds : Nat → Int32} {kd : Nat → Nat} {q : List Nat} {n p : Nat} (h : Rq a q) (hq : q.length ≤ 7) (hn : n ≤ 7) (hx : ∀ x ∈ q, x < n) (hk : Rn kinds kd n) (hkd : ∀ i, i < n → kd i ≤ 2) (hp : p < n) : Co_placeToStand (nI p) (nI q.length) a kinds = some (nI (placeQ kd q p)) := by
  have hpk := hkd p hp
  unfold Co_placeToStand
  rw [if_pos (ck_nI (by omega) (by omega)), nI_clamp (by omega), hk p hp]
  unfold placeQ
  by_cases c1 : kd p = 1
  · rw [if_pos c1, if_pos (by rw [c1]; rfl)]
    by_cases c0 : q.length = 0
    · rw [c0]; rfl
    · rw [li1, pk_sub (by omega), if_neg (nI_pos (by omega))]
  · rw [if_neg c1, if_neg (by rw [li1, nI_eq (by omega) (by omega)]; exact c1), if_pos (ck_nI (by omega) (by omega))]
    by_cases c2 : kd p = 2
    · rw [if_pos c2, if_pos (by rw [c2]; rfl), li0, Co_pf_loop _ h hq hn hx hk hkd _ q.length 0 (by omega), Nat.zero_add, List.drop_zero]
    · rw [if_neg c2, if_neg (by rw [li2, nI_eq (by omega) (by omega)]; exact c2)]

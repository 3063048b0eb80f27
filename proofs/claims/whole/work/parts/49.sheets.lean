/-! ===== sheets ===== -/
def SHR (la sz : Nat → Int32) (ce : Nat → Nat → Int32) (ms ml mh : Nat → Int32) : Prop :=
  ∀ k, k < 4 → (la k = -1 ∧ sz k = 0 ∧ ms k = -1) ∨ ∃ l n, l ≤ 2 ∧ n ≤ 60 ∧ la k = nI l ∧ sz k = nI n ∧ ms k = nI n ∧ ml k = nI l ∧ ∀ i, i < n → ce k i = mh (60 * k + i)
theorem upv {α : Type} (f : Nat → α) (k : Nat) (v : α) (j : Nat) : va_up f k v j = if j = k then v else f j := rfl
theorem sh_cases (x : Int32) : (∃ k, k < 4 ∧ x = nI k ∧ Tq_isSheet x = some 1 ∧ Mo_noSheet x = some 0) ∨ (Tq_isSheet x = some 0 ∧ Mo_noSheet x = some 1) := by
  unfold Mo_noSheet Tq_isSheet
  rcases in_cases x (n := 4) (by omega) 3 (by decide) with ⟨k, hk, e, h1⟩ | ⟨c, h1⟩
  · refine Or.inl ⟨k, hk, e, ?_, ?_⟩
    · rw [e, if_neg (nI_pos (by omega)), show (4 : Int32) = nI 4 from rfl, if_neg (nI_ge hk (by omega))]
    · rw [h1]; rfl
  · refine Or.inr ⟨?_, ?_⟩
    · by_cases c1 : x < 0
      · rw [if_pos c1]
      · rw [if_neg c1, if_pos (show 4 ≤ x from c.resolve_left c1)]
    · rw [h1]; rfl
theorem la_cases (x : Int32) : (∃ k, k ≤ 2 ∧ x = nI k ∧ Tq_isLane x = some 1 ∧ Mo_in x.toInt64 0 2 = some 1) ∨ (Tq_isLane x = some 0 ∧ Mo_in x.toInt64 0 2 = some 0) := by
  unfold Tq_isLane
  rcases in_cases x (n := 3) (by omega) 2 (by decide) with ⟨k, hk, e, h1⟩ | ⟨c, h1⟩
  · refine Or.inl ⟨k, by omega, e, ?_, h1⟩
    rw [e, if_neg (nI_pos (by omega)), show (2 : Int32) = nI 2 from rfl, if_neg (nI_nlt (by omega) (by omega))]
  · refine Or.inr ⟨?_, h1⟩
    by_cases c1 : x < 0
    · rw [if_pos c1]
    · rw [if_neg c1, if_pos ?_]
      have z := i_le.mp (c.resolve_left c1)
      rw [nI_toInt (by omega)] at z
      rw [i_lt]
      have m1 : (2 : Int32).toInt = 2 := by decide
      omega
theorem cl_h : ∀ n, n < 61 → ((nI n).toInt64 - 1).toInt = (n : Int) - 1 := by decide +kernel
theorem m1_nlt {n : Nat} (h : n ≤ 60) : ¬ nI n = -1 := by
  intro e
  have := congrArg Int32.toInt e
  rw [nI_toInt (by omega)] at this
  have m : (-1 : Int32).toInt = -1 := by decide
  omega
/-- one cell -/
theorem cl_cases (x : Int32) {s : Nat} (hs : s ≤ 60) : (∃ a, a < s ∧ x = nI a ∧ Sh_holds x 1 (nI s) = some 1 ∧ Mo_in x.toInt64 0 ((nI s).toInt64 - 1) = some 1) ∨ (Sh_holds x 1 (nI s) = some 0 ∧ Mo_in x.toInt64 0 ((nI s).toInt64 - 1) = some 0) := by
  unfold Sh_holds
  rcases in_cases x (n := s) (by omega) _ (cl_h s (by omega)) with ⟨a, ha, e, h1⟩ | ⟨c, h1⟩
  · refine Or.inl ⟨a, ha, e, ?_, h1⟩
    rw [e, if_neg (nI_pos (by omega)), if_neg (by decide), if_neg (nI_nlt (by omega) (by omega)), pk_sub (by omega), show (1 : Int32) = nI 1 from rfl, if_neg (nI_nlt (by omega) (by omega))]
  · refine Or.inr ⟨?_, h1⟩
    by_cases c1 : x < 0
    · rw [if_pos c1]
    · have c2 := c.resolve_left c1
      rw [if_neg c1, if_neg (by decide)]
      by_cases c3 : nI s < x
      · rw [if_pos c3]
      · rw [if_neg c3]
        have e : x = nI s := by
          apply Int32.toInt_inj.mp
          rw [i_le] at c2
          rw [i_lt] at c3
          omega
        rw [e, pk_sub (Nat.le_refl s), Nat.sub_self, if_pos (by decide)]
/-- a stretch of cells -/
theorem st_cases (x y : Int32) {s : Nat} (hs : s ≤ 60) : (∃ a c, a + c ≤ s ∧ x = nI a ∧ y = nI c ∧ Sh_holds x y (nI s) = some 1 ∧ Mo_isBeyond x y.toInt64 (nI s) = some 0) ∨ (Sh_holds x y (nI s) = some 0 ∧ Mo_isBeyond x y.toInt64 (nI s) = some 1) := by
  unfold Sh_holds Mo_isBeyond
  have z0 : (0 : Int64).toInt = 0 := by decide
  have z1 : (0 : Int32).toInt = 0 := by decide
  by_cases c1 : x < 0
  · rw [if_pos c1, if_pos c1]; exact Or.inr ⟨rfl, rfl⟩
  · rw [if_neg c1, if_neg c1]
    by_cases c2 : y < 0
    · have k2 : lg_cmp y.toInt64 0 < 0 := by
        rw [lg_cmp_lt, l_lt, w_int, z0]
        rw [i_lt, z1] at c2
        exact c2
      rw [if_pos c2, if_pos k2]; exact Or.inr ⟨rfl, rfl⟩
    · have k2 : ¬ lg_cmp y.toInt64 0 < 0 := by
        rw [lg_cmp_lt, l_lt, w_int, z0]
        rw [i_lt, z1] at c2
        exact c2
      rw [if_neg c2, if_neg k2]
      rw [i_lt, z1] at c1 c2
      have hx := x.toInt_lt
      have hy := y.toInt_lt
      have ea : (x.toInt64 + y.toInt64).toInt = x.toInt + y.toInt := by
        rw [Int64.toInt_add, w_int, w_int]
        exact Int.bmod_eq_of_le (by omega) (by omega)
      have hn : (nI s).toInt = s := nI_toInt (by omega)
      by_cases c3 : x.toInt + y.toInt ≤ s
      · obtain ⟨a, ha⟩ : ∃ a : Nat, x.toInt = a := ⟨x.toInt.toNat, by omega⟩
        obtain ⟨c, hc⟩ : ∃ c : Nat, y.toInt = c := ⟨y.toInt.toNat, by omega⟩
        have hac : a + c ≤ s := by omega
        have xa : x = nI a := Int32.toInt_inj.mp (by rw [ha, nI_toInt (by omega)])
        have yc : y = nI c := Int32.toInt_inj.mp (by rw [hc, nI_toInt (by omega)])
        refine Or.inl ⟨a, c, hac, xa, yc, ?_, ?_⟩
        · rw [xa, yc, if_neg (nI_nlt (by omega) (by omega)), pk_sub (by omega), if_neg (nI_nlt (by omega) (by omega))]
        · have k3 : lg_cmp (x.toInt64 + y.toInt64) (nI s).toInt64 ≤ 0 := by
            rw [lg_cmp_le, l_le, ea, w_int, hn]
            exact c3
          rw [if_pos k3]
      · refine Or.inr ⟨?_, ?_⟩
        · by_cases c4 : nI s < x
          · rw [if_pos c4]
          · rw [if_neg c4, if_pos ?_]
            rw [i_lt, hn] at c4
            rw [i_lt]
            have es : (nI s - x).toInt = s - x.toInt := by
              rw [Int32.toInt_sub, hn]
              exact Int.bmod_eq_of_le (by omega) (by omega)
            omega
        · have k3 : ¬ lg_cmp (x.toInt64 + y.toInt64) (nI s).toInt64 ≤ 0 := by
            rw [lg_cmp_le, l_le, ea, w_int, hn]
            exact c3
          rw [if_neg k3]

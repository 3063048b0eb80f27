/-! ===== nI under and, xor, >>>, one bit, 65535 ===== -/
theorem nx_and (a b : Nat) : nI a &&& nI b = nI (a &&& b) := by
  apply Int32.toBitVec_inj.1
  show BitVec.ofNat 32 a &&& BitVec.ofNat 32 b = BitVec.ofNat 32 (a &&& b)
  apply BitVec.eq_of_getLsbD_eq
  intro i hi
  simp [hi]
theorem nx_xor (a b : Nat) : nI a ^^^ nI b = nI (a ^^^ b) := by
  apply Int32.toBitVec_inj.1
  show BitVec.ofNat 32 a ^^^ BitVec.ofNat 32 b = BitVec.ofNat 32 (a ^^^ b)
  apply BitVec.eq_of_getLsbD_eq
  intro i hi
  simp [hi]
theorem nx_cnt : ∀ j : Fin 32, (UInt32.ofNat j.val &&& Int32.toUInt32 31).toNat % 32 = j.val := by decide +kernel
theorem nx_ush {k j : Nat} (hk : k < 65536) (hj : j < 32) : ((nI k).toUInt32 >>> ((nI j).toUInt32 &&& Int32.toUInt32 31)).toInt32 = nI (k >>> j) := by
  have hs : k >>> j ≤ k := by
    rw [Nat.shiftRight_eq_div_pow]
    exact Nat.div_le_self _ _
  have e2 : UInt32.ofNat k >>> (UInt32.ofNat j &&& Int32.toUInt32 31) = UInt32.ofNat (k >>> j) := by
    apply UInt32.toNat_inj.1
    have h1 : (UInt32.ofNat k).toNat = k := Nat.mod_eq_of_lt (by omega)
    have h2 : (UInt32.ofNat (k >>> j)).toNat = k >>> j := Nat.mod_eq_of_lt (by omega)
    rw [UInt32.toNat_shiftRight, nx_cnt ⟨j, hj⟩, h1, h2]
  show (UInt32.ofNat k >>> (UInt32.ofNat j &&& Int32.toUInt32 31)).toInt32 = _
  rw [e2]
  rfl
theorem nx_bit {k j : Nat} (hk : k < 65536) (hj : j < 16) : (((nI k).toUInt32 >>> ((nI j).toUInt32 &&& Int32.toUInt32 31)).toInt32 &&& 1) = 0 ↔ k.testBit j = false := by
  rw [nx_ush hk (by omega)]
  show nI (k >>> j) &&& nI 1 = 0 ↔ _
  rw [nx_and, Nat.and_one_is_mod, ← nI_0, nI_eq (by omega) (by omega), Nat.testBit_eq_decide_div_mod_eq, Nat.shiftRight_eq_div_pow, decide_eq_false_iff_not]
  generalize k / 2 ^ j = z
  omega
/-! ===== Int64 as a set of bits: test, set, clear ===== -/
theorem ts_nf {x : Bool} (h : ¬ x = false) : x = true := by cases x <;> first | rfl | exact absurd rfl h
theorem ts_nt {x : Bool} (h : ¬ x = true) : x = false := by cases x <;> first | rfl | exact absurd rfl h
theorem ts_bit {w : Int64} {s : UInt64} {j : Nat} (hj : j < 64) (hs : s.toNat = j) : ((w.toUInt64 >>> s).toInt64 &&& 1) = 0 ↔ w.toBitVec.getLsbD j = false := by
  have e : (w.toUInt64 >>> s).toInt64.toBitVec = w.toBitVec >>> j := by
    apply BitVec.eq_of_toNat_eq
    show (w.toUInt64 >>> s).toNat = _
    rw [UInt64.toNat_shiftRight, hs, Nat.mod_eq_of_lt hj, BitVec.toNat_ushiftRight]
    rfl
  rw [← Int64.toBitVec_inj, Int64.toBitVec_and, e]
  show w.toBitVec >>> j &&& 1#64 = 0#64 ↔ _
  constructor
  · intro h
    have t := congrArg (fun x => x.getLsbD 0) h
    simpa using t
  · intro h
    apply BitVec.eq_of_getLsbD_eq
    intro i hi
    cases i with
    | zero => simp [h]
    | succ i => simp
/-! ===== bits, as this program asks for them ===== -/
def bitL (b : Int64) (m : Nat) : Bool := b.toBitVec.getLsbD m
theorem one_shl : ∀ k, k < 64 → ((1 : Int64) <<< ((nI k).toInt64 &&& 63)).toBitVec = BitVec.twoPow 64 k := by decide +kernel
theorem cnt_shr : ∀ k, k < 64 → ((nI k).toInt64.toUInt64 &&& Int64.toUInt64 63).toNat = k := by decide +kernel
theorem cnt_sshr : ∀ k, k < 64 → (((nI k).toInt64 &&& 63).toBitVec.smod 64).toNat = k := by decide +kernel
theorem bitL_or (a b : Int64) (m : Nat) : bitL (a ||| b) m = (bitL a m || bitL b m) := by
  unfold bitL
  rw [Int64.toBitVec_or, BitVec.getLsbD_or]
theorem bitL_one {k m : Nat} (hk : k < 64) : bitL ((1 : Int64) <<< ((nI k).toInt64 &&& 63)) m = decide (m = k) := by
  unfold bitL
  rw [one_shl k hk, BitVec.getLsbD_twoPow]
  by_cases c : m = k
  · subst c; simp [hk]
  · have c2 : ¬ k = m := fun e => c e.symm
    simp [c, c2]
theorem bitL_0 (m : Nat) : bitL 0 m = false := by
  unfold bitL
  show (0#64).getLsbD m = false
  simp
theorem bitL_ext {a b : Int64} (h : ∀ m, m < 64 → bitL a m = bitL b m) : a = b := by
  apply Int64.toBitVec_inj.1
  apply BitVec.eq_of_getLsbD_eq
  intro i hi
  exact h i hi
theorem u_bit {b : Int64} {k : Nat} (hk : k < 64) : ((b.toUInt64 >>> ((nI k).toInt64.toUInt64 &&& Int64.toUInt64 63)).toInt64 &&& 1) = 0 ↔ bitL b k = false := ts_bit hk (cnt_shr k hk)
theorem s_bit {b : Int64} {k : Nat} (hk : k < 64) : ((b >>> ((nI k).toInt64 &&& 63)) &&& 1) = 1 ↔ bitL b k = true := by
  rw [← Int64.toBitVec_inj, Int64.toBitVec_and]
  have e : (b >>> ((nI k).toInt64 &&& 63)).toBitVec = b.toBitVec.sshiftRight k := by
    rw [Int64.toBitVec_shiftRight, BitVec.sshiftRight_eq', cnt_sshr k hk]
  rw [e]
  show b.toBitVec.sshiftRight k &&& 1#64 = 1#64 ↔ _
  constructor
  · intro h
    have t := congrArg (fun x => x.getLsbD 0) h
    simp only [BitVec.getLsbD_and, BitVec.getLsbD_sshiftRight] at t
    unfold bitL
    simpa [hk] using t
  · intro h
    unfold bitL at h
    apply BitVec.eq_of_getLsbD_eq
    intro i hi
    cases i with
    | zero => simp [BitVec.getLsbD_sshiftRight, hk, h]
    | succ i => simp
theorem isMin_in {m : Nat} (h : m < 60) : Tq_isMinute (nI m) = some 1 := by
  unfold Tq_isMinute
  rw [if_neg (nI_pos (by omega)), show (60 : Int32) = nI 60 from rfl, if_neg (nI_ge h (by omega))]
theorem isMin_out {m : Nat} (h : 60 ≤ m) (hm : m < 2 ^ 31) : Tq_isMinute (nI m) = some 0 := by
  unfold Tq_isMinute
  rw [if_neg (nI_pos hm), show (60 : Int32) = nI 60 from rfl, if_pos (nI_le h hm)]
theorem hasMin_ok {b : Int64} {m : Nat} (hm : m < 2 ^ 31) : Tq_hasMinute b (nI m) = some (if m < 60 ∧ bitL b m = true then 1 else 0) := by
  unfold Tq_hasMinute
  rcases Nat.lt_or_ge m 60 with c | c
  · rw [isMin_in c, Option.bind_some, if_neg (by decide)]
    by_cases h : bitL b m = true
    · rw [if_neg (by rw [lg_cmp_eq, u_bit (by omega), h]; decide), if_pos ⟨c, h⟩]
    · rw [if_pos (by rw [lg_cmp_eq, u_bit (by omega)]; exact eq_false_of_ne_true h), if_neg (fun q => h q.2)]
  · rw [isMin_out c hm, Option.bind_some, if_pos rfl, if_neg (fun q => by omega)]
theorem isBell_ok {b : Int64} {m : Nat} (hm : m < 2 ^ 31) : Mo_isBell b (nI m) = some (if m < 60 ∧ bitL b m = true then 1 else 0) := by
  unfold Mo_isBell
  rcases Nat.lt_or_ge m 60 with c | c
  · rw [show (60 : Int32) = nI 60 from rfl, if_neg (nI_ge c (by omega))]
    by_cases h : bitL b m = true
    · rw [if_pos (by rw [lg_cmp_eq, s_bit (by omega)]; exact h), if_pos ⟨c, h⟩]
    · rw [if_neg (by rw [lg_cmp_eq, s_bit (by omega)]; exact h), if_neg (fun q => h q.2)]
  · rw [show (60 : Int32) = nI 60 from rfl, if_pos (nI_le c hm), if_neg (fun q => by omega)]
theorem hasPer_ok {s p : Nat} (hs : s < 65536) (hp : p < 16) : Tq_hasPerson (nI s) (nI p) = some (if s.testBit p = true then 1 else 0) := by
  unfold Tq_hasPerson
  by_cases h : s.testBit p = true
  · rw [if_neg (by rw [nx_bit hs hp, h]; decide), if_pos h]
  · rw [if_pos (by rw [nx_bit hs hp]; exact eq_false_of_ne_true h), if_neg h]
theorem cnt_s31 : ∀ k, k < 32 → ((nI k &&& 31).toBitVec.smod 32).toNat = k := by decide +kernel
theorem who_ok {s p : Nat} (hs : s < 65536) (hp : p < 16) : ((nI s >>> (nI p &&& 31)) &&& 1) = 1 ↔ s.testBit p = true := by
  rw [pk_shrN (by omega) _ p (cnt_s31 p (by omega))]
  show nI (s / 2 ^ p) &&& nI 1 = nI 1 ↔ _
  have hd : s / 2 ^ p ≤ s := Nat.div_le_self _ _
  rw [nx_and, Nat.and_one_is_mod, nI_eq (by omega) (by omega), Nat.testBit_eq_decide_div_mod_eq, decide_eq_true_iff]
theorem everybody_ok : ∀ c, c < 8 → ((1 : Int32) <<< (nI c &&& 31)) - 1 = nI (2 ^ c - 1) := by decide +kernel
theorem bit_ok : ∀ c, c < 8 → ((1 : Int32) <<< (nI c &&& 31)) = nI (2 ^ c) := by decide +kernel
def clr (a p : Nat) : Nat := if a.testBit p = true then a - 2 ^ p else a
theorem clr_ok : ∀ a, a < 256 → ∀ p, p < 8 → nI a &&& (((1 : Int32) <<< (nI p &&& 31)) ^^^ (-1)) = nI (clr a p) := by decide +kernel
theorem clr_bit : ∀ a, a < 256 → ∀ p, p < 8 → clr a p < 256 ∧ ∀ j, j < 8 → (clr a p).testBit j = (a.testBit j && !decide (j = p)) := by decide +kernel
theorem all_bit {c p : Nat} (hp : p < c) : (2 ^ c - 1).testBit p = true := by
  rw [Nat.testBit_two_pow_sub_one]
  exact decide_eq_true hp
theorem small_bit {a p : Nat} (ha : a < 256) (hp : 8 ≤ p) : a.testBit p = false := Nat.testBit_lt_two_pow (Nat.lt_of_lt_of_le (show a < 2 ^ 8 from ha) (Nat.pow_le_pow_right (by decide) hp))
theorem zero_bits : ∀ a, a < 256 → (∀ j, j < 8 → a.testBit j = false) → a = 0 := by decide +kernel

/-! ===== how many bells: Long.bitCount against counting ===== -/
def cbit (n : Nat) : Nat → Nat → Nat
  | 0, _ => 0
  | d + 1, m => (if n.testBit m = true then 1 else 0) + cbit n d (m + 1)
theorem cbit_s (n d m : Nat) : cbit n (d + 1) m = (if n.testBit m = true then 1 else 0) + cbit n d (m + 1) := rfl
theorem cbit_add (n : Nat) : ∀ (a d m : Nat), cbit n (a + d) m = cbit n a m + cbit n d (m + a)
  | 0, d, m => by rw [Nat.zero_add, Nat.add_zero]; show _ = 0 + _; omega
  | a + 1, d, m => by
    rw [show a + 1 + d = (a + d) + 1 by omega, cbit_s, cbit_s, cbit_add n a d (m + 1), show m + 1 + a = m + (a + 1) by omega]
    omega
theorem cbit_sh (n : Nat) : ∀ (d m : Nat), cbit n d (m + 8) = cbit (n / 256) d m
  | 0, _ => rfl
  | d + 1, m => by
    rw [cbit_s, cbit_s, show m + 8 + 1 = (m + 1) + 8 by omega, cbit_sh n d (m + 1), show (n / 256).testBit m = n.testBit (m + 8) by rw [show n / 256 = n / 2 ^ 8 from rfl, Nat.testBit_div_two_pow]]
theorem cbit_lo (n : Nat) : ∀ (d m : Nat), m + d ≤ 8 → cbit (n % 256) d m = cbit n d m
  | 0, _, _ => rfl
  | d + 1, m, h => by
    rw [cbit_s, cbit_s, cbit_lo n d (m + 1) (by omega), show (n % 256).testBit m = n.testBit m by rw [show n % 256 = n % 2 ^ 8 from rfl, Nat.testBit_mod_two_pow, decide_eq_true (show m < 8 by omega), Bool.true_and]]
theorem cbit_le (n : Nat) : ∀ (d m : Nat), cbit n d m ≤ d
  | 0, _ => Nat.le_refl 0
  | d + 1, m => by
    rw [cbit_s]
    have := cbit_le n d (m + 1)
    by_cases c : n.testBit m = true
    · rw [if_pos c]; omega
    · rw [if_neg c]; omega
def mk8 (c : Nat) : Nat → Nat
  | 0 => 0
  | j + 1 => 256 * mk8 c j + c
theorem and_split {a b c d : Nat} (hb : b < 256) (hd : d < 256) : (256 * a + b) &&& (256 * c + d) = 256 * (a &&& c) + (b &&& d) := by
  apply Nat.eq_of_testBit_eq
  intro i
  have h1 : b &&& d < 2 ^ 8 := Nat.lt_of_le_of_lt Nat.and_le_left hb
  rw [Nat.testBit_and, show (256 : Nat) = 2 ^ 8 from rfl, Nat.testBit_two_pow_mul_add a hb, Nat.testBit_two_pow_mul_add c hd, Nat.testBit_two_pow_mul_add _ h1]
  by_cases z : i < 8
  · rw [if_pos z, if_pos z, if_pos z, Nat.testBit_and]
  · rw [if_neg z, if_neg z, if_neg z, Nat.testBit_and]
def g1 (j n : Nat) : Nat := n - ((n / 2) &&& mk8 85 j)
def g2 (j n : Nat) : Nat := (n &&& mk8 51 j) + ((n / 4) &&& mk8 51 j)
def g3 (j n : Nat) : Nat := (n + n / 16) &&& mk8 15 j
def a1 (l : Nat) : Nat := l - ((l / 2) &&& 85)
def a2 (l : Nat) : Nat := (l &&& 51) + ((l / 4) &&& 51)
def a3 (l : Nat) : Nat := (l + l / 16) &&& 15
theorem m1_ok : ∀ e, e < 2 → ∀ l, l < 256 → (e * 128 + l / 2) &&& 85 = (l / 2) &&& 85 := by decide +kernel
theorem m2_ok : ∀ e, e < 4 → ∀ l, l < 256 → (e * 64 + l / 4) &&& 51 = (l / 4) &&& 51 := by decide +kernel
theorem m3_ok : ∀ e, e < 5 → ∀ l, l < 69 → (l + e * 16 + l / 16) &&& 15 = (l + l / 16) &&& 15 := by decide +kernel
theorem byte_ok : ∀ l, l < 256 → a1 l < 256 ∧ a2 (a1 l) < 69 ∧ a2 (a1 l) % 16 < 5 ∧ a3 (a2 (a1 l)) = cbit l 8 0 := by decide +kernel
theorem g1_s (j h l : Nat) (hl : l < 256) : g1 (j + 1) (256 * h + l) = 256 * g1 j h + a1 l := by
  unfold g1 a1
  show _ - (_ &&& (256 * mk8 85 j + 85)) = _
  rw [show (256 * h + l) / 2 = 256 * (h / 2) + (h % 2 * 128 + l / 2) by omega, and_split (by omega) (by omega), m1_ok _ (by omega) l hl]
  have q1 : (h / 2) &&& mk8 85 j ≤ h / 2 := Nat.and_le_left
  have q2 : (l / 2) &&& 85 ≤ l / 2 := Nat.and_le_left
  omega
theorem g2_s (j h l : Nat) (hl : l < 256) : g2 (j + 1) (256 * h + l) = 256 * g2 j h + a2 l := by
  unfold g2 a2
  show (_ &&& (256 * mk8 51 j + 51)) + (_ &&& (256 * mk8 51 j + 51)) = _
  rw [show (256 * h + l) / 4 = 256 * (h / 4) + (h % 4 * 64 + l / 4) by omega, and_split (by omega) (by omega), and_split (by omega) (by omega), m2_ok _ (by omega) l hl]
  omega
theorem g3_s (j h l : Nat) (hl : l < 69) (hh : h % 16 < 5) : g3 (j + 1) (256 * h + l) = 256 * g3 j h + a3 l := by
  unfold g3 a3
  show _ &&& (256 * mk8 15 j + 15) = _
  rw [show 256 * h + l + (256 * h + l) / 16 = 256 * (h + h / 16) + (l + h % 16 * 16 + l / 16) by omega, and_split (by omega) (by omega), m3_ok _ hh l hl]
theorem g12_m (j n : Nat) : g2 j (g1 j n) % 16 < 5 := by
  cases j with
  | zero =>
    unfold g2
    show ((_ &&& 0) + (_ &&& 0)) % 16 < 5
    rw [Nat.and_zero, Nat.and_zero]
    omega
  | succ j =>
    obtain ⟨b1, b2, b3, b4⟩ := byte_ok (n % 256) (by omega)
    rw [show n = 256 * (n / 256) + n % 256 by omega, g1_s j _ _ (by omega), g2_s j _ _ b1]
    omega
def F8 (j n : Nat) : Nat := g3 j (g2 j (g1 j n))
def S8 : Nat → Nat → Nat
  | 0, _ => 0
  | j + 1, n => cbit (n % 256) 8 0 + S8 j (n / 256)
theorem F8_s (j n : Nat) : F8 (j + 1) n = 256 * F8 j (n / 256) + cbit (n % 256) 8 0 := by
  obtain ⟨b1, b2, b3, b4⟩ := byte_ok (n % 256) (by omega)
  unfold F8
  have e : n = 256 * (n / 256) + n % 256 := by omega
  rw [show g1 (j + 1) n = 256 * g1 j (n / 256) + a1 (n % 256) by
    have := g1_s j (n / 256) (n % 256) (by omega)
    rw [← e] at this
    exact this, g2_s j _ _ b1, g3_s j _ _ b2 (g12_m j _), b4]
theorem F8_0 (n : Nat) : F8 0 n = 0 := by
  unfold F8 g3
  show _ &&& 0 = 0
  exact Nat.and_zero _
theorem S8_ok : ∀ (j n : Nat), cbit n (8 * j) 0 = S8 j n
  | 0, _ => rfl
  | j + 1, n => by
    rw [show 8 * (j + 1) = 8 + 8 * j by omega, cbit_add n 8 (8 * j) 0, Nat.zero_add, show cbit n (8 * j) 8 = cbit n (8 * j) (0 + 8) from rfl, cbit_sh n (8 * j) 0, S8_ok j (n / 256)]
    show _ = cbit (n % 256) 8 0 + _
    rw [cbit_lo n 8 0 (by omega)]
theorem dv {k B r y : Nat} (hk : 0 < k) (e : y = k * B + r) (h : r < k) : y / k = B := by
  rw [e, Nat.mul_add_div hk, Nat.div_eq_of_lt h, Nat.add_zero]
theorem fold_ok {c0 c1 c2 c3 c4 c5 c6 c7 : Nat} (h0 : c0 ≤ 8) (h1 : c1 ≤ 8) (h2 : c2 ≤ 8) (h3 : c3 ≤ 8) (h4 : c4 ≤ 8) (h5 : c5 ≤ 8) (h6 : c6 ≤ 8) (h7 : c7 ≤ 8) {y : Nat}
    (e : y = 256 * (256 * (256 * (256 * (256 * (256 * (256 * (256 * 0 + c7) + c6) + c5) + c4) + c3) + c2) + c1) + c0) : ∃ A B C K : Nat, y / 256 = A ∧ (y + A) / 65536 = B ∧ (y + A + B) / 4294967296 = C ∧ y + A + B + C = 256 * K + (c0 + (c1 + (c2 + (c3 + (c4 + (c5 + (c6 + (c7 + 0)))))))) ∧ y + A + B + C < 18446744073709551616 := by
  refine ⟨256 * (256 * (256 * (256 * (256 * (256 * c7 + c6) + c5) + c4) + c3) + c2) + c1, 256 * (256 * (256 * (256 * (256 * c7 + (c6 + c7)) + (c5 + c6)) + (c4 + c5)) + (c3 + c4)) + (c2 + c3), 256 * (256 * (256 * c7 + (c6 + c7)) + (c5 + c6 + c7)) + (c4 + c5 + c6 + c7),
    256 * (256 * (256 * (256 * (256 * (256 * c7 + (c6 + c7)) + (c5 + c6 + c7)) + (c4 + c5 + c6 + c7)) + (c3 + c4 + c5 + c6 + c7)) + (c2 + c3 + c4 + c5 + c6 + c7)) + (c1 + c2 + c3 + c4 + c5 + c6 + c7), ?_, ?_, ?_, ?_, ?_⟩
  · exact dv (r := c0) (by decide) (by omega) (by omega)
  · exact dv (r := 256 * (c1 + c2) + (c0 + c1)) (by decide) (by omega) (by omega)
  · exact dv (r := 256 * (256 * (256 * (c3 + c4 + c5 + c6) + (c2 + c3 + c4 + c5)) + (c1 + c2 + c3 + c4)) + (c0 + c1 + c2 + c3)) (by decide) (by omega) (by omega)
  · omega
  · omega
/-! the words of 64 bits as numbers -/
def N64 (x : Int64) : Nat := x.toBitVec.toNat
theorem N64_lt (x : Int64) : N64 x < 2 ^ 64 := x.toBitVec.isLt
theorem N64_shr {x : Int64} {s : UInt64} {k : Nat} (hk : k < 64) (hs : s.toNat = k) : N64 (x.toUInt64 >>> s).toInt64 = N64 x / 2 ^ k := by
  show (x.toUInt64 >>> s).toNat = _
  rw [UInt64.toNat_shiftRight, hs, Nat.mod_eq_of_lt hk, Nat.shiftRight_eq_div_pow]
  rfl
theorem N64_and (x y : Int64) : N64 (x &&& y) = N64 x &&& N64 y := by
  unfold N64
  rw [Int64.toBitVec_and, BitVec.toNat_and]
theorem N64_sub {x y : Int64} (h : N64 y ≤ N64 x) : N64 (x - y) = N64 x - N64 y := by
  unfold N64 at h ⊢
  rw [Int64.toBitVec_sub, BitVec.toNat_sub]
  have := x.toBitVec.isLt
  have := y.toBitVec.isLt
  omega
theorem N64_add {x y : Int64} (h : N64 x + N64 y < 2 ^ 64) : N64 (x + y) = N64 x + N64 y := by
  unfold N64 at h ⊢
  rw [Int64.toBitVec_add, BitVec.toNat_add]
  omega
theorem N64_85 : N64 6148914691236517205 = mk8 85 8 := by decide +kernel
theorem N64_51 : N64 3689348814741910323 = mk8 51 8 := by decide +kernel
theorem N64_15 : N64 1085102592571150095 = mk8 15 8 := by decide +kernel
theorem k85 : mk8 85 8 = 6148914691236517205 := by decide +kernel
theorem k51 : mk8 51 8 = 3689348814741910323 := by decide +kernel
theorem k15 : mk8 15 8 = 1085102592571150095 := by decide +kernel
theorem low_ok {y : Int64} : y.toInt32 &&& 127 = nI (N64 y % 128) := by
  apply Int32.toBitVec_inj.1
  rw [Int32.toBitVec_and]
  apply BitVec.eq_of_toNat_eq
  rw [BitVec.toNat_and]
  show (y.toInt32.toBitVec.toNat &&& 127) = (BitVec.ofNat 32 (N64 y % 128)).toNat
  have e : y.toInt32.toBitVec.toNat = N64 y % 2 ^ 32 := by
    rw [show y.toInt32.toBitVec = y.toBitVec.signExtend 32 from rfl, BitVec.signExtend_eq_setWidth_of_le _ (by omega), BitVec.toNat_setWidth]
    rfl
  rw [e, BitVec.toNat_ofNat, show (127 : Nat) = 2 ^ 7 - 1 from rfl, Nat.and_two_pow_sub_one_eq_mod]
  omega
theorem JL_ok (b : Int64) : JL_bitCount b = some (nI (cbit (N64 b) 64 0)) := by
  unfold JL_bitCount
  simp only [lt]
  have s1 : N64 (b - ((b.toUInt64 >>> ((1 : Int32).toInt64.toUInt64 &&& Int64.toUInt64 63)).toInt64 &&& 6148914691236517205)) = g1 8 (N64 b) := by
    have e : N64 ((b.toUInt64 >>> ((1 : Int32).toInt64.toUInt64 &&& Int64.toUInt64 63)).toInt64 &&& 6148914691236517205) = (N64 b / 2) &&& mk8 85 8 := by
      rw [N64_and, N64_shr (k := 1) (by omega) (by decide), N64_85]
    rw [N64_sub, e]
    · rfl
    · rw [e]
      have : (N64 b / 2) &&& mk8 85 8 ≤ N64 b / 2 := Nat.and_le_left
      omega
  generalize b - ((b.toUInt64 >>> ((1 : Int32).toInt64.toUInt64 &&& Int64.toUInt64 63)).toInt64 &&& 6148914691236517205) = y1 at s1
  have s2 : N64 ((y1 &&& 3689348814741910323) + ((y1.toUInt64 >>> ((2 : Int32).toInt64.toUInt64 &&& Int64.toUInt64 63)).toInt64 &&& 3689348814741910323)) = g2 8 (N64 y1) := by
    have e1 : N64 (y1 &&& 3689348814741910323) = N64 y1 &&& mk8 51 8 := by rw [N64_and, N64_51]
    have e2 : N64 ((y1.toUInt64 >>> ((2 : Int32).toInt64.toUInt64 &&& Int64.toUInt64 63)).toInt64 &&& 3689348814741910323) = (N64 y1 / 4) &&& mk8 51 8 := by
      rw [N64_and, N64_shr (k := 2) (by omega) (by decide), N64_51]
    rw [N64_add, e1, e2]
    · rfl
    · rw [e1, e2]
      have q1 : N64 y1 &&& mk8 51 8 ≤ mk8 51 8 := Nat.and_le_right
      have q2 : (N64 y1 / 4) &&& mk8 51 8 ≤ mk8 51 8 := Nat.and_le_right
      have := k51
      omega
  have b2 : g2 8 (N64 y1) ≤ 2 * mk8 51 8 := by
    unfold g2
    have q1 : N64 y1 &&& mk8 51 8 ≤ mk8 51 8 := Nat.and_le_right
    have q2 : (N64 y1 / 4) &&& mk8 51 8 ≤ mk8 51 8 := Nat.and_le_right
    omega
  generalize (y1 &&& 3689348814741910323) + ((y1.toUInt64 >>> ((2 : Int32).toInt64.toUInt64 &&& Int64.toUInt64 63)).toInt64 &&& 3689348814741910323) = y2 at s2
  have s3 : N64 ((y2 + (y2.toUInt64 >>> ((4 : Int32).toInt64.toUInt64 &&& Int64.toUInt64 63)).toInt64) &&& 1085102592571150095) = g3 8 (N64 y2) := by
    have e1 : N64 (y2.toUInt64 >>> ((4 : Int32).toInt64.toUInt64 &&& Int64.toUInt64 63)).toInt64 = N64 y2 / 16 := N64_shr (k := 4) (by omega) (by decide)
    rw [N64_and, N64_15, N64_add, e1]
    · rfl
    · rw [e1, s2]
      have := k51
      omega
  generalize (y2 + (y2.toUInt64 >>> ((4 : Int32).toInt64.toUInt64 &&& Int64.toUInt64 63)).toInt64) &&& 1085102592571150095 = y3 at s3
  have hy3 : N64 y3 = F8 8 (N64 b) := by rw [s3, s2, s1]; rfl
  rw [F8_s, F8_s, F8_s, F8_s, F8_s, F8_s, F8_s, F8_s, F8_0] at hy3
  obtain ⟨A, B, C, K, f1, f2, f3, f4, f5⟩ := fold_ok (cbit_le _ 8 0) (cbit_le _ 8 0) (cbit_le _ 8 0) (cbit_le _ 8 0) (cbit_le _ 8 0) (cbit_le _ 8 0) (cbit_le _ 8 0) (cbit_le _ 8 0) hy3
  have hs : S8 8 (N64 b) ≤ 64 := by
    rw [← S8_ok]
    exact cbit_le _ _ 0
  have s4 : N64 (y3 + (y3.toUInt64 >>> ((8 : Int32).toInt64.toUInt64 &&& Int64.toUInt64 63)).toInt64) = N64 y3 + A := by
    have e1 : N64 (y3.toUInt64 >>> ((8 : Int32).toInt64.toUInt64 &&& Int64.toUInt64 63)).toInt64 = A := (N64_shr (k := 8) (by omega) (by decide)).trans f1
    rw [N64_add, e1]
    rw [e1]
    generalize N64 y3 = v at f5 ⊢
    omega
  generalize y3 + (y3.toUInt64 >>> ((8 : Int32).toInt64.toUInt64 &&& Int64.toUInt64 63)).toInt64 = y4 at s4
  have s5 : N64 (y4 + (y4.toUInt64 >>> ((16 : Int32).toInt64.toUInt64 &&& Int64.toUInt64 63)).toInt64) = N64 y3 + A + B := by
    have e1 : N64 (y4.toUInt64 >>> ((16 : Int32).toInt64.toUInt64 &&& Int64.toUInt64 63)).toInt64 = B := (N64_shr (k := 16) (by omega) (by decide)).trans (by rw [s4]; exact f2)
    rw [N64_add, e1, s4]
    rw [e1, s4]
    generalize N64 y3 = v at f5 ⊢
    omega
  generalize y4 + (y4.toUInt64 >>> ((16 : Int32).toInt64.toUInt64 &&& Int64.toUInt64 63)).toInt64 = y5 at s5
  have s6 : N64 (y5 + (y5.toUInt64 >>> ((32 : Int32).toInt64.toUInt64 &&& Int64.toUInt64 63)).toInt64) = N64 y3 + A + B + C := by
    have e1 : N64 (y5.toUInt64 >>> ((32 : Int32).toInt64.toUInt64 &&& Int64.toUInt64 63)).toInt64 = C := (N64_shr (k := 32) (by omega) (by decide)).trans (by rw [s5]; exact f3)
    rw [N64_add, e1, s5]
    rw [e1, s5]
    exact f5
  have f4 : N64 y3 + A + B + C = 256 * K + S8 8 (N64 b) := f4
  have e7 : (256 * K + S8 8 (N64 b)) % 128 = S8 8 (N64 b) := by
    generalize S8 8 (N64 b) = v at hs ⊢
    omega
  rw [low_ok, s6, f4, e7, ← S8_ok 8]
theorem N64_bit (b : Int64) (m : Nat) : (N64 b).testBit m = bitL b m := by
  unfold N64 bitL
  rw [BitVec.testBit_toNat]
section
variable {b : Int64} {what : Int32} {cnt law rc : Int32}
theorem Mo_mn_loop : ∀ (d i c : Nat), 60 = i + d → Mo_many_l4 what cnt law b rc (nI c) (nI i) = Mo_many_j35 what cnt law b rc (nI (c + cbit (N64 b) d i))
  | 0, i, c, hd => by
    rw [Mo_many_l4_eq]
    unfold Mo_many_b4
    rw [show (60 : Int32) = nI 60 from rfl, if_pos (nI_le (by omega) (by omega)), pu_ex]
    rfl
  | d + 1, i, c, hd => by
    rw [Mo_many_l4_eq]
    unfold Mo_many_b4
    rw [show (60 : Int32) = nI 60 from rfl, if_neg (nI_ge (by omega) (by omega)), isBell_ok (by omega), Option.bind_some, cbit_s, N64_bit]
    simp only [lt]
    by_cases z : bitL b i = true
    · rw [if_pos (show i < 60 ∧ bitL b i = true from ⟨by omega, z⟩), if_neg one_ne0, nI_1, nI_1, pu_jp, Mo_many_l4_fd, Mo_mn_loop d (i + 1) (c + 1) (by omega), if_pos z, Nat.add_assoc]
    · rw [if_neg (show ¬ (i < 60 ∧ bitL b i = true) from fun q => z q.2), if_pos rfl, nI_1, Int32.add_zero, pu_jp, Mo_many_l4_fd, Mo_mn_loop d (i + 1) c (by omega), if_neg z, Nat.zero_add]
end
theorem T_many {law cnt : Int32} {kinds comes wants outs : Nat → Int32} {rc : Int32} {persons minutes : Nat → Int32} {mcnt mlaw : Int32} {mkinds mcomes mwants mouts : Nat → Int32} {mrc : Int32} {mro mra : Nat → Int32} (h : PI law cnt kinds comes wants outs rc persons minutes mcnt mlaw mkinds mcomes mwants mouts mrc mro mra) (w : Int32) {b : Int64} (hb : HB b) :
    ∃ o, Tq_many w law cnt b rc = some o ∧ Mo_many w mcnt mlaw b mrc = some o := by
  obtain ⟨P, n, rp, rm, hP, hR, hM, hr, hr'⟩ := h
  obtain ⟨rfl, rfl, -⟩ := id hR
  obtain ⟨rfl, rfl, -⟩ := id hM
  obtain ⟨rfl, -⟩ := id hr
  obtain ⟨rfl, -⟩ := id hr'
  have e0 : cbit (N64 b) 64 0 = cbit (N64 b) 60 0 := by
    rw [show 64 = 60 + 4 from rfl, cbit_add]
    have z : ∀ d m, 60 ≤ m → cbit (N64 b) d m = 0 := by
      intro d
      induction d with
      | zero => intro m _; rfl
      | succ d ih =>
        intro m hm
        rw [cbit_s, N64_bit, hb m hm, ih (m + 1) (by omega)]
        rfl
    rw [z 4 _ (by omega), Nat.add_zero]
  have e := Mo_mn_loop (b := b) (what := w) (cnt := nI (pCnt P)) (law := nI (pLaw P)) (rc := nI n) 60 0 0 (by omega)
  rw [Nat.zero_add] at e
  have e : Mo_many_l4 w (nI (pCnt P)) (nI (pLaw P)) b (nI n) 0 0 = _ := e
  unfold Tq_many Mo_many
  rw [e, JL_ok, e0]
  generalize cbit (N64 b) 60 0 = c
  unfold Mo_many_j35
  simp only [Option.bind_some]
  by_cases c0 : w = 0
  · simp only [if_pos c0]; exact ⟨_, rfl, rfl⟩
  · simp only [if_neg c0]
    by_cases c1 : w = 1
    · simp only [if_pos c1]; exact ⟨_, rfl, rfl⟩
    · simp only [if_neg c1]
      by_cases c2 : w = 2
      · simp only [if_pos c2]; exact ⟨_, rfl, rfl⟩
      · simp only [if_neg c2]
        by_cases c3 : w = 3
        · simp only [if_pos c3]; exact ⟨_, rfl, rfl⟩
        · simp only [if_neg c3]; exact ⟨_, rfl, rfl⟩

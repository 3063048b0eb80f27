/-! ===== the plan and the readings on both sides ===== -/
def PI (law cnt : Int32) (kinds comes wants outs : Nat → Int32) (rc : Int32) (persons minutes : Nat → Int32) (mcnt mlaw : Int32) (mkinds mcomes mwants mouts : Nat → Int32) (mrc : Int32) (mro mra : Nat → Int32) : Prop :=
  ∃ P n rp rm, pOK P ∧ RP P law cnt kinds comes wants outs ∧ RP P mlaw mcnt mkinds mcomes mwants mouts ∧ RR P n rp rm rc persons minutes ∧ RR P n rp rm mrc mro mra
theorem RR_cnt {P P' : Pln} {n : Nat} {rp rm : Nat → Nat} {rc : Int32} {persons minutes : Nat → Int32} (h : RR P n rp rm rc persons minutes) (e : pCnt P' = pCnt P) : RR P' n rp rm rc persons minutes := by
  unfold RR at h ⊢
  rw [e]
  exact h
section
variable {law cnt : Int32} {kinds comes wants outs : Nat → Int32} {rc : Int32} {persons minutes : Nat → Int32} {mcnt mlaw : Int32} {mkinds mcomes mwants mouts : Nat → Int32} {mrc : Int32} {mro mra : Nat → Int32}
theorem T_ofPerson (h : PI law cnt kinds comes wants outs rc persons minutes mcnt mlaw mkinds mcomes mwants mouts mrc mro mra) (x w : Int32) :
    ∃ o, Tq_ofPerson x w cnt kinds comes wants outs = some o ∧ Mo_ofPerson x w mcnt mkinds mcomes mwants mouts = some o := by
  obtain ⟨P, n, rp, rm, hP, hR, hM, -, -⟩ := h
  have hc := hP.2.1
  obtain ⟨rfl, rfl, a1, a2, a3, a4⟩ := id hR
  obtain ⟨rfl, rfl, b1, b2, b3, b4⟩ := id hM
  unfold Tq_ofPerson Mo_ofPerson
  rcases per_cases x hc with ⟨p, hp, e, h1, h2⟩ | ⟨h1, h2⟩
  · rw [h1, h2, Option.bind_some, Option.bind_some, if_neg one_ne0, if_pos rfl, e]
    have hk : ck (nI p) 7 = true := ck_nI (by omega) (by omega)
    have hq : (nI p).toNatClampNeg = p := nI_clamp (by omega)
    simp only [hk, if_true, hq]
    rw [a1 p hp, b1 p hp, a2 p hp, b2 p hp, a3 p hp, b3 p hp, a4 p hp, b4 p hp]
    by_cases c0 : w = 0
    · simp only [c0, if_true]; exact ⟨_, rfl, rfl⟩
    · simp only [c0, if_false]
      by_cases c1 : w = 1
      · simp only [c1, if_true]; exact ⟨_, rfl, rfl⟩
      · simp only [c1, if_false]
        by_cases c2 : w = 2
        · simp only [c2, if_true]; exact ⟨_, rfl, rfl⟩
        · simp only [c2, if_false]
          by_cases c3 : w = 3
          · simp only [c3, if_true]; exact ⟨_, rfl, rfl⟩
          · simp only [c3, if_false]; exact ⟨_, rfl, rfl⟩
  · rw [h1, h2, Option.bind_some, Option.bind_some, if_neg one_ne0, if_pos rfl]
    exact ⟨_, rfl, rfl⟩
theorem T_come (h : PI law cnt kinds comes wants outs rc persons minutes mcnt mlaw mkinds mcomes mwants mouts mrc mro mra) (x m : Int32) :
    ∃ o o', Tq_come x m cnt comes = some o ∧ Mo_come x m mcnt mcomes = some o' ∧ o.1 = o'.1 ∧ PI law cnt kinds o.2 wants outs rc persons minutes mcnt mlaw mkinds o'.2 mwants mouts mrc mro mra := by
  have h0 := h
  obtain ⟨P, n, rp, rm, hP, hR, hM, hr, hr'⟩ := h
  have hc := hP.2.1
  obtain ⟨rfl, rfl, a1, a2, a3, a4⟩ := id hR
  obtain ⟨rfl, rfl, b1, b2, b3, b4⟩ := id hM
  unfold Tq_come Mo_come
  rcases per_cases x hc with ⟨p, hp, e, h1, h2⟩ | ⟨h1, h2⟩
  · rw [h1, h2, Option.bind_some, Option.bind_some, if_neg one_ne0, if_pos rfl, e]
    rcases min_cases m with ⟨t, ht, e2, h3, h4⟩ | ⟨h3, h4⟩
    · rw [h3, h4, Option.bind_some, Option.bind_some, if_neg one_ne0, if_neg one_ne0]
      have hk : ck (nI p) 7 = true := ck_nI (by omega) (by omega)
      have hq : (nI p).toNatClampNeg = p := nI_clamp (by omega)
      simp only [hk, if_true, hq, lt]
      refine ⟨_, _, rfl, rfl, ?_, setCm P p t, n, rp, rm, setCm_ok hP ht, ?_, ?_, RR_cnt hr rfl, RR_cnt hr' rfl⟩
      · show comes p = mcomes p
        rw [a2 p hp, b2 p hp]
      · dsimp only; rw [e2]; exact setCm_RP hR (fun _ _ _ => rfl)
      · dsimp only; rw [e2]; exact setCm_RP hM (fun _ _ _ => rfl)
    · rw [h3, h4, Option.bind_some, Option.bind_some, if_pos rfl, if_pos rfl]
      exact ⟨_, _, rfl, rfl, rfl, h0⟩
  · rw [h1, h2, Option.bind_some, Option.bind_some, if_neg one_ne0, if_pos rfl]
    exact ⟨_, _, rfl, rfl, rfl, h0⟩
theorem T_runOut (h : PI law cnt kinds comes wants outs rc persons minutes mcnt mlaw mkinds mcomes mwants mouts mrc mro mra) (x m : Int32) :
    ∃ o o', Tq_runOut x m cnt outs = some o ∧ Mo_runOut x m mcnt mouts = some o' ∧ o.1 = o'.1 ∧ PI law cnt kinds comes wants o.2 rc persons minutes mcnt mlaw mkinds mcomes mwants o'.2 mrc mro mra := by
  have h0 := h
  obtain ⟨P, n, rp, rm, hP, hR, hM, hr, hr'⟩ := h
  have hc := hP.2.1
  obtain ⟨rfl, rfl, a1, a2, a3, a4⟩ := id hR
  obtain ⟨rfl, rfl, b1, b2, b3, b4⟩ := id hM
  unfold Tq_runOut Mo_runOut
  rcases per_cases x hc with ⟨p, hp, e, h1, h2⟩ | ⟨h1, h2⟩
  · rw [h1, h2, Option.bind_some, Option.bind_some, if_neg one_ne0, if_pos rfl, e]
    have hk : ck (nI p) 7 = true := ck_nI (by omega) (by omega)
    have hq : (nI p).toNatClampNeg = p := nI_clamp (by omega)
    have main : ∀ v : Option Nat, oI v = m → (∀ t, v = some t → t < 60) → ∃ o o', Tq_runOut_j29 (nI p) m (nI (pCnt P)) outs = some o ∧ Mo_runOut_j26 (nI p) m (nI (pCnt P)) mouts = some o' ∧ o.1 = o'.1 ∧ PI (nI (pLaw P)) (nI (pCnt P)) kinds comes wants o.2 rc persons minutes (nI (pCnt P)) (nI (pLaw P)) mkinds mcomes mwants o'.2 mrc mro mra := by
      intro v ev hv
      unfold Tq_runOut_j29 Mo_runOut_j26
      simp only [hk, if_true, hq, lt]
      refine ⟨_, _, rfl, rfl, ?_, setOt P p v, n, rp, rm, setOt_ok hP hv, ?_, ?_, RR_cnt hr rfl, RR_cnt hr' rfl⟩
      · show outs p = mouts p
        rw [a4 p hp, b4 p hp]
      · dsimp only; rw [← ev]; exact setOt_RP hR (fun _ _ _ => rfl)
      · dsimp only; rw [← ev]; exact setOt_RP hM (fun _ _ _ => rfl)
    by_cases c9 : m = -9
    · rw [if_pos c9, if_pos c9]
      exact main none c9.symm (fun t z => by cases z)
    · rw [if_neg c9, if_neg c9]
      rcases min_cases m with ⟨t, ht, e2, h3, h4⟩ | ⟨h3, h4⟩
      · rw [h3, h4, Option.bind_some, Option.bind_some, if_neg one_ne0, if_neg one_ne0]
        exact main (some t) e2.symm (fun t z => by cases z; exact ht)
      · rw [h3, h4, Option.bind_some, Option.bind_some, if_pos rfl, if_pos rfl]
        exact ⟨_, _, rfl, rfl, rfl, h0⟩
  · rw [h1, h2, Option.bind_some, Option.bind_some, if_neg one_ne0, if_pos rfl]
    exact ⟨_, _, rfl, rfl, rfl, h0⟩
def HB (b : Int64) : Prop := ∀ k, 60 ≤ k → bitL b k = false
theorem T_bell (h : PI law cnt kinds comes wants outs rc persons minutes mcnt mlaw mkinds mcomes mwants mouts mrc mro mra) (x : Int32) {z : Int32} (hz : z = 0 ∨ z = 1) {b : Int64} (hb : HB b) :
    ∃ o o', Tq_bell x z cnt b = some o ∧ Mo_bell x z mcnt b = some o' ∧ o.1 = o'.1 ∧ o.2 = o'.2 ∧ HB o.2 := by
  obtain ⟨P, n, rp, rm, hP, hR, hM, hr, hr'⟩ := h
  have hc := hP.2.1
  obtain ⟨rfl, rfl, -⟩ := id hR
  obtain ⟨rfl, rfl, -⟩ := id hM
  unfold Tq_bell Mo_bell
  rcases min_cases x with ⟨t, ht, e2, h3, h4⟩ | ⟨h3, h4⟩
  · rw [h3, h4, Option.bind_some, Option.bind_some, if_neg one_ne0, if_neg one_ne0]
    rcases none_cases hc with ⟨c0, h5, h6⟩ | ⟨c0, h5, h6⟩
    · rw [h5, if_pos h6, Option.bind_some, if_neg one_ne0]
      exact ⟨_, _, rfl, rfl, rfl, rfl, hb⟩
    · rw [h5, if_neg h6, Option.bind_some, if_pos rfl, e2, hasMin_ok (by omega), isBell_ok (by omega), Option.bind_some, Option.bind_some]
      simp only [lt]
      unfold Mo_bell_j59
      have ho : ∀ m, bitL ((1 : Int64) <<< ((nI t).toInt64 &&& 63)) m = decide (m = t) := fun m => bitL_one (by omega)
      generalize (1 : Int64) <<< ((nI t).toInt64 &&& 63) = w at ho
      have hx : HB (b ^^^ w) := by
        intro k hk
        rw [bitL_xor, hb k hk, ho k, decide_eq_false (by omega)]
        rfl
      have n01 : ¬ (0 : Int32) = 1 := by decide
      by_cases hbit : bitL b t = true
      · rw [if_pos (show t < 60 ∧ bitL b t = true from ⟨ht, hbit⟩)]
        have e3 : b ||| w = b := by
          apply bitL_ext
          intro m _
          rw [bitL_or, ho m]
          by_cases c : m = t
          · rw [c, hbit]; rfl
          · rw [decide_eq_false c, Bool.or_false]
        have e4 : b &&& (w ^^^ (-1)) = b ^^^ w := by
          apply bitL_ext
          intro m hm
          rw [bitL_and, bitL_xor, bitL_xor, ho m, bitL_m1 m hm]
          by_cases c : m = t
          · rw [c, hbit, decide_eq_true rfl]; rfl
          · rw [decide_eq_false c]; cases bitL b m <;> rfl
        rcases hz with rfl | rfl
        · rw [if_neg one_ne0, if_pos rfl, if_neg one_ne0, e4]
          exact ⟨_, _, rfl, rfl, rfl, rfl, hx⟩
        · rw [if_pos rfl, if_neg one_ne0, if_pos rfl, e3]
          exact ⟨_, _, rfl, rfl, rfl, rfl, hb⟩
      · rw [if_neg (show ¬ (t < 60 ∧ bitL b t = true) from fun q => hbit q.2)]
        have hbit := eq_false_of_ne_true hbit
        have e3 : b ||| w = b ^^^ w := by
          apply bitL_ext
          intro m _
          rw [bitL_or, bitL_xor, ho m]
          by_cases c : m = t
          · rw [c, hbit, decide_eq_true rfl]; rfl
          · rw [decide_eq_false c]; cases bitL b m <;> rfl
        have e4 : b &&& (w ^^^ (-1)) = b := by
          apply bitL_ext
          intro m hm
          rw [bitL_and, bitL_xor, ho m, bitL_m1 m hm]
          by_cases c : m = t
          · rw [c, hbit]; rfl
          · rw [decide_eq_false c]; cases bitL b m <;> rfl
        rcases hz with rfl | rfl
        · rw [if_pos rfl, if_pos rfl, if_pos rfl, e4]
          exact ⟨_, _, rfl, rfl, rfl, rfl, hb⟩
        · rw [if_neg n01, if_neg one_ne0, if_neg n01, e3]
          exact ⟨_, _, rfl, rfl, rfl, rfl, hx⟩
  · rw [h3, h4, Option.bind_some, Option.bind_some, if_pos rfl, if_pos rfl]
    exact ⟨_, _, rfl, rfl, rfl, rfl, hb⟩
theorem T_reading (h : PI law cnt kinds comes wants outs rc persons minutes mcnt mlaw mkinds mcomes mwants mouts mrc mro mra) (x m : Int32) :
    ∃ o o', Tq_reading x m cnt rc persons minutes = some o ∧ Mo_reading x m mcnt mrc mro mra = some o' ∧ o.1 = o'.1 ∧ PI law cnt kinds comes wants outs o.2.1 o.2.2.1 o.2.2.2 mcnt mlaw mkinds mcomes mwants mouts o'.2.1 o'.2.2.1 o'.2.2.2 := by
  have h0 := h
  obtain ⟨P, n, rp, rm, hP, hR, hM, hr, hr'⟩ := h
  have hc := hP.2.1
  obtain ⟨rfl, rfl, -⟩ := id hR
  obtain ⟨rfl, rfl, -⟩ := id hM
  obtain ⟨rfl, h8, r1⟩ := id hr
  obtain ⟨rfl, -, r2⟩ := id hr'
  unfold Tq_reading Mo_reading
  rcases per_cases x hc with ⟨p, hp, e, h1, h2⟩ | ⟨h1, h2⟩
  · rw [h1, h2, Option.bind_some, Option.bind_some, if_neg one_ne0, if_pos rfl, e]
    rcases in_cases m (n := 200) (by omega) 199 (by decide) with ⟨t, ht, em, h3⟩ | ⟨c, h3⟩
    · rw [h3, Option.bind_some, if_neg one_ne0, em, if_neg (nI_pos (by omega)), show (199 : Int32) = nI 199 from rfl, if_pos (nI_le (by omega) (by omega))]
      unfold Re_add
      by_cases c8 : n = 8
      · rw [show (8 : Int32) = nI 8 from rfl, if_neg (nI_nlt (by omega) (by omega)), if_pos (by rw [c8]), Option.bind_some]
        exact ⟨_, _, rfl, rfl, rfl, h0⟩
      · have hk : ck (nI n) 8 = true := ck_nI (by omega) (by omega)
        have hq : (nI n).toNatClampNeg = n := nI_clamp (by omega)
        rw [show (8 : Int32) = nI 8 from rfl, if_pos (nI_lt (by omega) (by omega)), if_neg (show ¬ nI n = nI 8 from fun z => c8 ((nI_eq (by omega) (by omega)).mp z))]
        simp only [hk, if_true, lt, hq, Option.bind_some]
        refine ⟨_, _, rfl, rfl, rfl, P, n + 1, fun j => if j = n then p else rp j, fun j => if j = n then t else rm j, hP, hR, hM, ⟨nI_1 n, by omega, fun k hk => ?_⟩, ⟨nI_1 n, by omega, fun k hk => ?_⟩⟩
        · dsimp only
          rw [upd_eq, upd_eq]
          by_cases z : k = n
          · rw [if_pos z, if_pos z, if_pos z, if_pos z]; exact ⟨rfl, hp, rfl, ht⟩
          · rw [if_neg z, if_neg z, if_neg z, if_neg z]; exact r1 k (by omega)
        · dsimp only
          rw [upd_eq, upd_eq]
          by_cases z : k = n
          · rw [if_pos z, if_pos z, if_pos z, if_pos z]; exact ⟨rfl, hp, rfl, ht⟩
          · rw [if_neg z, if_neg z, if_neg z, if_neg z]; exact r2 k (by omega)
    · rw [h3, Option.bind_some, if_pos rfl]
      by_cases c1 : m < 0
      · rw [if_pos c1]
        exact ⟨_, _, rfl, rfl, rfl, h0⟩
      · have c2 : ¬ m ≤ 199 := by
          rw [i_le]
          have z := i_le.mp (c.resolve_left c1)
          have m1 : (199 : Int32).toInt = 199 := by decide
          rw [nI_toInt (by omega)] at z
          omega
        rw [if_neg c1, if_neg c2]
        exact ⟨_, _, rfl, rfl, rfl, h0⟩
  · rw [h1, h2, Option.bind_some, Option.bind_some, if_neg one_ne0, if_pos rfl]
    exact ⟨_, _, rfl, rfl, rfl, h0⟩
theorem T_back (h : PI law cnt kinds comes wants outs rc persons minutes mcnt mlaw mkinds mcomes mwants mouts mrc mro mra) (x : Int32) :
    ∃ o o', Tq_back x rc = some o ∧ Mo_back x mrc = some o' ∧ o.1 = o'.1 ∧ PI law cnt kinds comes wants outs o.2 persons minutes mcnt mlaw mkinds mcomes mwants mouts o'.2 mro mra := by
  have h0 := h
  obtain ⟨P, n, rp, rm, hP, hR, hM, hr, hr'⟩ := h
  obtain ⟨rfl, h8, r1⟩ := id hr
  obtain ⟨rfl, -, r2⟩ := id hr'
  unfold Tq_back Mo_back
  have hn : ((nI n).toInt64).toInt = ((n + 1 : Nat) : Int) - 1 := by
    rw [w_int, nI_toInt (by omega)]; omega
  rcases in_cases x (n := n + 1) (by omega) _ hn with ⟨k, hk, e, h1⟩ | ⟨c, h1⟩
  · rw [h1, Option.bind_some, if_neg one_ne0, e, if_neg (nI_pos (by omega)), if_pos (nI_le (by omega) (by omega))]
    simp only [lt]
    have es : nI n - nI k = nI (n - k) := pk_sub (by omega)
    rw [es]
    refine ⟨_, _, rfl, rfl, rfl, P, n - k, rp, rm, hP, hR, hM, ⟨rfl, by omega, fun j hj => r1 j (by omega)⟩, ⟨rfl, by omega, fun j hj => r2 j (by omega)⟩⟩
  · rw [h1, Option.bind_some, if_pos rfl]
    by_cases c1 : x < 0
    · rw [if_pos c1]
      exact ⟨_, _, rfl, rfl, rfl, h0⟩
    · have c2 : ¬ x ≤ nI n := by
        rw [i_le]
        have z := i_le.mp (c.resolve_left c1)
        rw [nI_toInt (by omega)] at z
        rw [nI_toInt (by omega)]
        omega
      rw [if_neg c1, if_neg c2]
      exact ⟨_, _, rfl, rfl, rfl, h0⟩
theorem tell_w : ∀ w, w < 10 → (nI w + 100) + nI w = (2 * nI w) + 100 := by decide +kernel
theorem T_tell (h : PI law cnt kinds comes wants outs rc persons minutes mcnt mlaw mkinds mcomes mwants mouts mrc mro mra) (x tr : Int32) :
    ∃ o o', Tq_tell x cnt kinds wants tr = some o ∧ Mo_tell x mcnt mkinds mwants tr = some o' ∧ o.1 = o'.1 ∧ o.2 = o'.2 := by
  obtain ⟨P, n, rp, rm, hP, hR, hM, -, -⟩ := h
  have hc := hP.2.1
  obtain ⟨rfl, rfl, a1, a2, a3, a4⟩ := id hR
  obtain ⟨rfl, rfl, b1, b2, b3, b4⟩ := id hM
  unfold Tq_tell Mo_tell
  rcases per_cases x hc with ⟨p, hp, e, h1, h2⟩ | ⟨h1, h2⟩
  · rw [h1, h2, Option.bind_some, Option.bind_some, if_neg one_ne0, if_pos rfl, e]
    have hk : ck (nI p) 7 = true := ck_nI (by omega) (by omega)
    have hq : (nI p).toNatClampNeg = p := nI_clamp (by omega)
    have hw := tell_w (pWt P p) (by have := (hP.2.2 p hp).2.2.2.1; omega)
    have h3 := (hP.2.2 p hp).1
    unfold Tq_motherTells Tq_cousinTells Tq_motherTells Tq_personTells Tq_leave Mo_tell_j27 Mo_tell_j36 Mo_tell_j51 Mo_traced
    simp only [hk, if_true, hq, lt, Option.bind_some]
    rw [a1 p hp, b1 p hp, a3 p hp, b3 p hp]
    have hcs : pKd P p = 0 ∨ pKd P p = 1 ∨ pKd P p = 2 := by omega
    rcases hcs with z | z | z <;> rw [z]
    · exact ⟨_, _, rfl, rfl, rfl, rfl⟩
    · exact ⟨_, _, rfl, rfl, rfl, rfl⟩
    · exact ⟨_, _, rfl, rfl, hw, rfl⟩
  · rw [h1, h2, Option.bind_some, Option.bind_some, if_neg one_ne0, if_pos rfl]
    exact ⟨_, _, rfl, rfl, rfl, rfl⟩
theorem T_greet (h : PI law cnt kinds comes wants outs rc persons minutes mcnt mlaw mkinds mcomes mwants mouts mrc mro mra) (x tr : Int32) :
    ∃ o o', Tq_greet x cnt kinds tr = some o ∧ Mo_greet x mcnt mkinds tr = some o' ∧ o.1 = o'.1 ∧ o.2 = o'.2 := by
  obtain ⟨P, n, rp, rm, hP, hR, hM, -, -⟩ := h
  have hc := hP.2.1
  obtain ⟨rfl, rfl, a1, a2, a3, a4⟩ := id hR
  obtain ⟨rfl, rfl, b1, b2, b3, b4⟩ := id hM
  unfold Tq_greet Mo_greet
  rcases per_cases x hc with ⟨p, hp, e, h1, h2⟩ | ⟨h1, h2⟩
  · rw [h1, h2, Option.bind_some, Option.bind_some, if_neg one_ne0, if_pos rfl, e]
    have hk : ck (nI p) 7 = true := ck_nI (by omega) (by omega)
    have hq : (nI p).toNatClampNeg = p := nI_clamp (by omega)
    unfold Tq_greet_j31 Tq_greet_j42 Mo_greet_j26 Tq_leave Mo_traced
    simp only [hk, if_true, hq, lt, Option.bind_some]
    rw [a1 p hp, b1 p hp]
    by_cases c : nI (pKd P p) = 2
    · simp only [if_pos c]; exact ⟨_, _, rfl, rfl, rfl, rfl⟩
    · simp only [if_neg c]; exact ⟨_, _, rfl, rfl, rfl, rfl⟩
  · rw [h1, h2, Option.bind_some, Option.bind_some, if_neg one_ne0, if_pos rfl]
    exact ⟨_, _, rfl, rfl, rfl, rfl⟩
theorem T_as (h : PI law cnt kinds comes wants outs rc persons minutes mcnt mlaw mkinds mcomes mwants mouts mrc mro mra) (x y f f' : Int32) :
    ∃ o o', Tq_as x y cnt kinds f = some o ∧ Mo_as x y mcnt mkinds f' = some o' ∧ o.1 = o'.1 ∧ o.2 = o'.2 := by
  obtain ⟨P, n, rp, rm, hP, hR, hM, -, -⟩ := h
  have hc := hP.2.1
  obtain ⟨rfl, rfl, a1, a2, a3, a4⟩ := id hR
  obtain ⟨rfl, rfl, b1, b2, b3, b4⟩ := id hM
  unfold Tq_as Mo_as Tq_faultless Tq_faulted Mo_refused Mo_failed
  rcases per_cases x hc with ⟨p, hp, e, h1, h2⟩ | ⟨h1, h2⟩
  · rw [h1, h2]
    simp only [Option.bind_some, n10, if_false, if_true]
    rw [e]
    have hk : ck (nI p) 7 = true := ck_nI (by omega) (by omega)
    have hq : (nI p).toNatClampNeg = p := nI_clamp (by omega)
    have h3 := (hP.2.2 p hp).1
    rcases in_cases y (n := 3) (by omega) 2 (by decide) with ⟨k, hk2, ek, h4⟩ | ⟨c, h4⟩
    · rw [h4, Option.bind_some, if_neg one_ne0, ek, if_neg (nI_pos (by omega)), show (2 : Int32) = nI 2 from rfl, if_pos (nI_le (by omega) (by omega))]
      simp only [hk, if_true, hq, Option.bind_some]
      rw [a1 p hp, b1 p hp]
      by_cases c : k ≤ pKd P p
      · rw [if_pos (nI_le c (by omega)), if_neg (nI_nlt c (by omega))]; exact ⟨_, _, rfl, rfl, rfl, rfl⟩
      · rw [if_neg (nI_ge (by omega) (by omega)), if_pos (nI_lt (by omega) (by omega))]; exact ⟨_, _, rfl, rfl, rfl, rfl⟩
    · rw [h4, Option.bind_some, if_pos rfl]
      by_cases c1 : y < 0
      · rw [if_pos c1]
        exact ⟨_, _, rfl, rfl, rfl, rfl⟩
      · have c2 : ¬ y ≤ 2 := by
          rw [i_le]
          have z := i_le.mp (c.resolve_left c1)
          have m1 : (2 : Int32).toInt = 2 := by decide
          rw [nI_toInt (by omega)] at z
          omega
        rw [if_neg c1, if_neg c2]
        exact ⟨_, _, rfl, rfl, rfl, rfl⟩
  · rw [h1, h2]
    simp only [Option.bind_some, n10, if_false, if_true]
    exact ⟨_, _, rfl, rfl, rfl, rfl⟩
end

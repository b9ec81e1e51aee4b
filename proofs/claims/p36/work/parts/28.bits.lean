/-! bits of ints and longs -/
def bZ (v : Int) (x : Nat) : Bool := (Int32.ofInt v).toBitVec.getLsbD x
def bJ (v : Int64) (x : Nat) : Bool := v.toBitVec.getLsbD x
theorem bZ_and (a b : Int) (x : Nat) : bZ (ian a b) x = (bZ a x && bZ b x) := by
  unfold bZ ian
  rw [oi_ti, Int32.toBitVec_and, BitVec.getLsbD_and]
theorem bZ_or (a b : Int) (x : Nat) : bZ (ior' a b) x = (bZ a x || bZ b x) := by
  unfold bZ ior'
  rw [oi_ti, Int32.toBitVec_or, BitVec.getLsbD_or]
theorem bZ_xor (a b : Int) (x : Nat) : bZ (ixr a b) x = (bZ a x ^^ bZ b x) := by
  unfold bZ ixr
  rw [oi_ti, Int32.toBitVec_xor, BitVec.getLsbD_xor]
set_option maxRecDepth 10000 in
theorem sh32_b : ((List.range 32).all fun k => decide (((Int32.ofInt (k : Int) &&& 31).toBitVec.smod 32).toNat = k)) = true := by decide +kernel
set_option maxRecDepth 10000 in
theorem sh64_b : ((List.range 64).all fun k => decide ((((Int32.ofInt (k : Int)).toInt64 &&& 63).toBitVec.smod 64).toNat = k)) = true := by decide +kernel
set_option maxRecDepth 10000 in
theorem uh32_b : ((List.range 32).all fun k => decide ((((Int32.ofInt (k : Int)).toUInt32 &&& Int32.toUInt32 31).toBitVec % 32).toNat = k)) = true := by decide +kernel
set_option maxRecDepth 10000 in
theorem uh64_b : ((List.range 64).all fun k => decide ((((Int32.ofInt (k : Int)).toInt64.toUInt64 &&& Int64.toUInt64 63).toBitVec % 64).toNat = k)) = true := by decide +kernel
theorem sh32 {k : Nat} (h : k < 32) : ((Int32.ofInt (k : Int) &&& 31).toBitVec.smod 32).toNat = k := of_decide_eq_true (List.all_eq_true.mp sh32_b k (List.mem_range.mpr h))
theorem sh64 {k : Nat} (h : k < 64) : (((Int32.ofInt (k : Int)).toInt64 &&& 63).toBitVec.smod 64).toNat = k := of_decide_eq_true (List.all_eq_true.mp sh64_b k (List.mem_range.mpr h))
theorem uh64 {k : Nat} (h : k < 64) : (((Int32.ofInt (k : Int)).toInt64.toUInt64 &&& Int64.toUInt64 63).toBitVec % 64).toNat = k := of_decide_eq_true (List.all_eq_true.mp uh64_b k (List.mem_range.mpr h))
theorem bZ_nat {v : Int} (h0 : 0 ≤ v) (h1 : v ≤ 2147483647) (x : Nat) : bZ v x = v.toNat.testBit x := by
  unfold bZ
  rw [Int32.toBitVec_ofInt, ← BitVec.testBit_toNat, BitVec.toNat_ofInt]
  congr 1
  have : v % ((2 ^ 32 : Nat) : Int) = v := Int.emod_eq_of_lt h0 (by show v < 4294967296; omega)
  rw [this]
theorem bZ_ge (v : Int) {x : Nat} (h : 32 ≤ x) : bZ v x = false := by
  unfold bZ
  exact BitVec.getLsbD_of_ge _ _ h
/-- two ints in range are one when their bits are -/
theorem bZ_ext {a b : Int} (ha : inR a) (hb : inR b) (h : ∀ x, x < 32 → bZ a x = bZ b x) : a = b := by
  have e : (Int32.ofInt a).toBitVec = (Int32.ofInt b).toBitVec := BitVec.eq_of_getLsbD_eq (fun x hx => h x hx)
  rw [← ti_oi ha, ← ti_oi hb, Int32.toBitVec_inj.mp e]
theorem bZ_lt {v : Int} (hv : inR v) {n : Nat} (hn : n < 32) (h : ∀ x, n ≤ x → x < 32 → bZ v x = false) : 0 ≤ v ∧ v < ((2 ^ n : Nat) : Int) := by
  have hm : (Int32.ofInt v).toBitVec.msb = false := by
    rw [BitVec.msb_eq_getLsbD_last]
    exact h 31 (by omega) (by omega)
  have e : v = ((Int32.ofInt v).toBitVec.toNat : Int) := by
    have h1 : (Int32.ofInt v).toInt = (Int32.ofInt v).toBitVec.toInt := rfl
    rw [ti_oi hv, BitVec.toInt_eq_toNat_of_msb hm] at h1
    exact h1
  have hlt : (Int32.ofInt v).toBitVec.toNat < 2 ^ n := by
    refine Nat.lt_pow_two_of_testBit _ (fun x hx => ?_)
    rw [BitVec.testBit_toNat]
    by_cases h32 : x < 32
    · exact h x hx h32
    · exact BitVec.getLsbD_of_ge _ _ (by omega)
  rw [e]
  exact ⟨by omega, by exact_mod_cast hlt⟩
theorem bZ_shr {v : Int} {k x : Nat} (hk : k < 32) (h0 : 0 ≤ v) (h1 : v ≤ 2147483647) : bZ (isr v k) x = bZ v (k + x) := by
  unfold isr bZ
  rw [oi_ti, Int32.toBitVec_shiftRight, BitVec.getLsbD_sshiftRight', sh32 hk]
  have hm : (Int32.ofInt v).toBitVec.msb = false := by
    rw [BitVec.msb_eq_getLsbD_last]
    have := bZ_nat h0 h1 31
    unfold bZ at this
    rw [this]
    exact Nat.testBit_lt_two_pow (by show v.toNat < 2147483648; omega)
  rw [hm]
  by_cases hx : 32 ≤ x
  · rw [decide_eq_true hx, BitVec.getLsbD_of_ge _ _ (by omega)]
    rfl
  · rw [decide_eq_false hx]
    by_cases h2 : k + x < 32
    · rw [if_pos h2]; rfl
    · rw [if_neg h2, BitVec.getLsbD_of_ge _ _ (by omega)]; rfl
theorem bZ_shl {v : Int} {k x : Nat} (hk : k < 32) : bZ (ish v k) x = (decide (x < 32) && (!decide (x < k) && bZ v (x - k))) := by
  unfold ish bZ
  rw [oi_ti, Int32.toBitVec_shiftLeft, BitVec.shiftLeft_eq', BitVec.getLsbD_shiftLeft, sh32 hk, Bool.and_assoc]
theorem bZ_1 (x : Nat) : bZ 1 x = decide (x = 0) := by
  show (1#32).getLsbD x = decide (x = 0)
  rw [BitVec.getLsbD_one]
  simp
theorem bZ_0 (x : Nat) : bZ 0 x = false := by
  show (0 : BitVec 32).getLsbD x = false
  simp
theorem bJ_and (a b : Int64) (x : Nat) : bJ (a &&& b) x = (bJ a x && bJ b x) := by
  unfold bJ
  rw [Int64.toBitVec_and, BitVec.getLsbD_and]
theorem bJ_or (a b : Int64) (x : Nat) : bJ (a ||| b) x = (bJ a x || bJ b x) := by
  unfold bJ
  rw [Int64.toBitVec_or, BitVec.getLsbD_or]
theorem bJ_xor (a b : Int64) (x : Nat) : bJ (a ^^^ b) x = (bJ a x ^^ bJ b x) := by
  unfold bJ
  rw [Int64.toBitVec_xor, BitVec.getLsbD_xor]
theorem bJ_ext {a b : Int64} (h : ∀ x, x < 64 → bJ a x = bJ b x) : a = b :=
  Int64.toBitVec_inj.mp (BitVec.eq_of_getLsbD_eq (fun x hx => h x hx))
theorem bJ_ge (v : Int64) {x : Nat} (h : 64 ≤ x) : bJ v x = false := by
  unfold bJ
  exact BitVec.getLsbD_of_ge _ _ h
theorem bJ_shl {v : Int64} {k x : Nat} (hk : k < 64) : bJ (lsh v k) x = (decide (x < 64) && (!decide (x < k) && bJ v (x - k))) := by
  unfold lsh bJ
  rw [Int64.toBitVec_shiftLeft, BitVec.shiftLeft_eq', BitVec.getLsbD_shiftLeft, sh64 hk, Bool.and_assoc]
theorem bJ_shr {v : Int64} {k x : Nat} (hk : k < 64) (h : bJ v 63 = false) : bJ (lsr v k) x = bJ v (k + x) := by
  unfold lsr
  show (v >>> ((Int32.ofInt (k : Int)).toInt64 &&& 63)).toBitVec.getLsbD x = v.toBitVec.getLsbD (k + x)
  rw [Int64.toBitVec_shiftRight, BitVec.getLsbD_sshiftRight', sh64 hk]
  have hm : v.toBitVec.msb = false := by
    rw [BitVec.msb_eq_getLsbD_last]
    exact h
  rw [hm]
  by_cases hx : 64 ≤ x
  · rw [decide_eq_true hx, BitVec.getLsbD_of_ge _ _ (by omega)]
    rfl
  · rw [decide_eq_false hx]
    by_cases h2 : k + x < 64
    · rw [if_pos h2]; rfl
    · rw [if_neg h2, BitVec.getLsbD_of_ge _ _ (by omega)]; rfl
theorem bJ_ushr {v : Int64} {k x : Nat} (hk : k < 64) : bJ (lus v k) x = bJ v (k + x) := by
  show (v.toUInt64 >>> ((Int32.ofInt (k : Int)).toInt64.toUInt64 &&& Int64.toUInt64 63)).toBitVec.getLsbD x = v.toBitVec.getLsbD (k + x)
  rw [UInt64.toBitVec_shiftRight, BitVec.ushiftRight_eq', BitVec.getLsbD_ushiftRight, uh64 hk]
  rfl
theorem bJ_0 (x : Nat) : bJ (Int64.ofNat 0) x = false := by
  show (0 : BitVec 64).getLsbD x = false
  simp
theorem bJ_1 (x : Nat) : bJ (Int64.ofNat 1) x = decide (x = 0) := by
  show (1#64).getLsbD x = decide (x = 0)
  rw [BitVec.getLsbD_one]
  simp
/-- a bit, asked as the code asks -/
theorem bit_i {v : Int} {k : Nat} (hk : k < 32) (h0 : 0 ≤ v) (h1 : v ≤ 2147483647) : ian (isr v k) 1 = if bZ v k then 1 else 0 := by
  refine bZ_ext (ti_in _) (by split <;> (unfold inR; omega)) (fun x hx => ?_)
  rw [bZ_and, bZ_shr hk h0 h1, bZ_1]
  cases hb : bZ v k with
  | true =>
    rw [if_pos rfl, bZ_1]
    by_cases hx0 : x = 0
    · subst hx0; simp [hb]
    · simp [hx0]
  | false =>
    rw [if_neg (by decide), bZ_0]
    by_cases hx0 : x = 0
    · subst hx0; simp [hb]
    · simp [hx0]
theorem bit_j {v : Int64} {k : Nat} (hk : k < 64) (h : bJ v 63 = false) : (lsr v k) &&& (Int64.ofNat 1) = if bJ v k then Int64.ofNat 1 else Int64.ofNat 0 := by
  refine bJ_ext (fun x hx => ?_)
  rw [bJ_and, bJ_shr hk h, bJ_1]
  cases hb : bJ v k with
  | true =>
    rw [if_pos rfl, bJ_1]
    by_cases hx0 : x = 0
    · subst hx0; simp [hb]
    · simp [hx0]
  | false =>
    rw [if_neg (by decide), bJ_0]
    by_cases hx0 : x = 0
    · subst hx0; simp [hb]
    · simp [hx0]

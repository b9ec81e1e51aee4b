/-! the lowest run of a row's bits -/
theorem dec2 : ∀ (n : Nat) {W : Nat}, W ≤ n → 0 < W → ∃ a m, W = 2 ^ (a + 1) * m + 2 ^ a
  | 0, W, h, h0 => absurd h0 (by omega)
  | n + 1, W, h, h0 => by
    by_cases e : W % 2 = 1
    · exact ⟨0, W / 2, by simp; omega⟩
    · obtain ⟨a, m, h1⟩ := dec2 n (W := W / 2) (by omega) (by omega)
      refine ⟨a + 1, m, ?_⟩
      have : W = 2 * (W / 2) := by omega
      rw [this, h1, Nat.mul_add, Nat.pow_succ 2 (a + 1), Nat.pow_succ 2 a]
      generalize 2 ^ a = t
      ac_rfl
theorem tb_dec (a m x : Nat) : (2 ^ (a + 1) * m + 2 ^ a).testBit x = if x < a then false else if x = a then true else m.testBit (x - (a + 1)) := by
  rw [Nat.testBit_two_pow_mul_add m (Nat.pow_lt_pow_right (by decide) (Nat.lt_succ_self a))]
  by_cases h1 : x < a
  · rw [if_pos (by omega), if_pos h1, Nat.testBit_two_pow]
    simp; omega
  · rw [if_neg h1]
    by_cases h2 : x = a
    · rw [if_pos (by omega), if_pos h2, Nat.testBit_two_pow]
      simp [h2]
    · rw [if_neg (by omega), if_neg h2]
theorem tb_dec1 (a m x : Nat) : (2 ^ (a + 1) * m + 2 ^ a - 1).testBit x = if x < a then true else if x = a then false else m.testBit (x - (a + 1)) := by
  have hp : 0 < 2 ^ a := Nat.pow_pos (by decide)
  rw [show 2 ^ (a + 1) * m + 2 ^ a - 1 = 2 ^ (a + 1) * m + (2 ^ a - 1) by omega, Nat.testBit_two_pow_mul_add m (show 2 ^ a - 1 < 2 ^ (a + 1) from Nat.lt_of_le_of_lt (Nat.sub_le _ _) (Nat.pow_lt_pow_right (by decide) (Nat.lt_succ_self a)))]
  by_cases h1 : x < a
  · rw [if_pos (by omega), if_pos h1, Nat.testBit_two_pow_sub_one]
    simp [h1]
  · rw [if_neg h1]
    by_cases h2 : x = a
    · rw [if_pos (by omega), if_pos h2, Nat.testBit_two_pow_sub_one]
      simp [h2]
    · rw [if_neg (by omega), if_neg h2]
/-- a number's lowest bit, alone -/
theorem low_b {w : Int64} {a m : Nat} (h : uJ w = 2 ^ (a + 1) * m + 2 ^ a) (x : Nat) : bJ (w &&& -w) x = decide (x = a) := by
  by_cases hx : x < 64
  · rw [bJ_and, ← uJ_bit w, h, tb_dec]
    have hneg : bJ (-w) x = !(2 ^ (a + 1) * m + 2 ^ a - 1).testBit x := by
      unfold bJ
      rw [Int64.toBitVec_neg, BitVec.neg_eq_not_add, ← BitVec.not_sub_one_eq_not_add_one, BitVec.getLsbD_not, decide_eq_true hx, Bool.true_and]
      congr 1
      have hp : 0 < 2 ^ a := Nat.pow_pos (by decide)
      have e : (w.toBitVec - 1#64).toNat = 2 ^ (a + 1) * m + 2 ^ a - 1 := by
        rw [BitVec.toNat_sub]
        have hu : w.toBitVec.toNat = 2 ^ (a + 1) * m + 2 ^ a := h
        have hl := w.toBitVec.isLt
        rw [hu] at hl ⊢
        show (18446744073709551616 - 1 + (2 ^ (a + 1) * m + 2 ^ a)) % 18446744073709551616 = _
        have : 2 ^ (a + 1) * m + 2 ^ a < 18446744073709551616 := hl
        have hW : 0 < 2 ^ (a + 1) * m + 2 ^ a := Nat.lt_of_lt_of_le hp (Nat.le_add_left _ _)
        generalize 2 ^ (a + 1) * m + 2 ^ a = W at *
        omega
      rw [← BitVec.testBit_toNat, e]
    rw [hneg, tb_dec1]
    by_cases h1 : x < a
    · rw [if_pos h1, if_pos h1, decide_eq_false (by omega)]; rfl
    · rw [if_neg h1, if_neg h1]
      by_cases h2 : x = a
      · rw [if_pos h2, if_pos h2, decide_eq_true h2]; rfl
      · rw [if_neg h2, if_neg h2, decide_eq_false h2]
        cases m.testBit (x - (a + 1)) <;> rfl
  · rw [bJ_ge _ (by omega)]
    have : a < 64 := by
      rcases Nat.lt_or_ge a 64 with g | g
      · exact g
      · have h1 := uJ_lt w
        have h2 : 2 ^ 64 ≤ 2 ^ a := Nat.pow_le_pow_right (by decide) g
        omega
    rw [decide_eq_false (by omega)]
theorem low_u {w : Int64} {a m : Nat} (h : uJ w = 2 ^ (a + 1) * m + 2 ^ a) : uJ (w &&& -w) = 2 ^ a := by
  refine Nat.eq_of_testBit_eq fun x => ?_
  rw [uJ_bit, low_b h, Nat.testBit_two_pow]
  simp [eq_comm]
theorem uJ_1 : uJ (Int64.ofNat 1) = 1 := by decide
theorem uJ_eq0 {w : Int64} (h : uJ w = 0) : w = Int64.ofNat 0 := bJ_ext fun x _ => by rw [← uJ_bit, h, bJ_0, Nat.zero_testBit]
theorem uJ_b48 {w : Int64} (h : ∀ x, 48 ≤ x → bJ w x = false) : uJ w < 2 ^ 48 := by
  refine Nat.lt_pow_two_of_testBit _ fun x hx => ?_
  rw [uJ_bit]
  exact h x hx
theorem cntB_all {b : Nat → Bool} : ∀ {n : Nat}, (∀ x, x < n → b x = true) → cntB b n = n
  | 0, _ => rfl
  | n + 1, h => by
    show cntB b n + (bif b n then 1 else 0) = n + 1
    rw [cntB_all (fun x hx => h x (by omega)), h n (by omega)]
    rfl
theorem cntB_below {b : Nat → Bool} {a : Nat} (h : ∀ x, b x = decide (x < a)) : ∀ n, a ≤ n → cntB b n = a
  | 0, hn => by
    show 0 = a
    omega
  | n + 1, hn => by
    show cntB b n + (bif b n then 1 else 0) = a
    rw [h n]
    by_cases g : n < a
    · have e : a = n + 1 := by omega
      rw [decide_eq_true g]
      have : cntB b n = n := cntB_all (fun x hx => by rw [h x, decide_eq_true (by omega)])
      rw [this, e]
      rfl
    · rw [decide_eq_false g, cntB_below h n (by omega)]
      rfl
theorem low_v {w : Int64} {a m : Nat} (h : uJ w = 2 ^ (a + 1) * m + 2 ^ a) : lowV w = (a : Int) := by
  unfold lowV
  have ha : a < 64 := by
    rcases Nat.lt_or_ge a 64 with g | g
    · exact g
    · have h1 := uJ_lt w
      have h2 : 2 ^ 64 ≤ 2 ^ a := Nat.pow_le_pow_right (by decide) g
      omega
  have e : uJ ((w &&& -w) - Int64.ofNat 1) = 2 ^ a - 1 := by
    rw [uJ_sub, low_u h, uJ_1]
    have hp : 0 < 2 ^ a := Nat.pow_pos (by decide)
    have hl : 2 ^ a < 2 ^ 64 := Nat.pow_lt_pow_right (by decide) ha
    have hl : 2 ^ a < 18446744073709551616 := hl
    omega
  rw [cntB_below (a := a) (fun x => by rw [← uJ_bit, e, Nat.testBit_two_pow_sub_one]) 64 (by omega)]
/-- the lowest run -/
def runV (w : Int64) : Int64 := w &&& ((w + (w &&& (-w))) ^^^ (Int64.ofInt (-1)))
theorem bJ_m1 {x : Nat} (h : x < 64) : bJ (Int64.ofInt (-1)) x = true := by
  have hb : ((List.range 64).all fun x => bJ (Int64.ofInt (-1)) x) = true := by decide +kernel
  exact List.all_eq_true.mp hb x (List.mem_range.mpr h)
theorem run_b {w : Int64} (h0 : w ≠ Int64.ofNat 0) (hb : ∀ x, 48 ≤ x → bJ w x = false) : ∃ a b, a < b ∧ b ≤ 48 ∧ (∀ x, x < a → bJ w x = false) ∧ (∀ x, a ≤ x → x < b → bJ w x = true) ∧ bJ w b = false ∧ (∀ x, bJ (runV w) x = decide (a ≤ x ∧ x < b)) ∧ lowV w = (a : Int) := by
  have hW : 0 < uJ w := by
    rcases Nat.eq_zero_or_pos (uJ w) with e | e
    · exact absurd (uJ_eq0 e) h0
    · exact e
  obtain ⟨a, m, h1⟩ := dec2 (uJ w) (Nat.le_refl _) hW
  obtain ⟨c, h, h2⟩ := dec2 (m + 1) (W := m + 1) (Nat.le_refl _) (by omega)
  have hw : ∀ x, bJ w x = if x < a then false else if x = a then true else m.testBit (x - (a + 1)) := fun x => by rw [← uJ_bit, h1, tb_dec]
  have hm : ∀ x, m.testBit x = if x < c then true else if x = c then false else h.testBit (x - (c + 1)) := fun x => by
    have : m = 2 ^ (c + 1) * h + 2 ^ c - 1 := by omega
    rw [this, tb_dec1]
  have hl48 := uJ_b48 hb
  have hsum : uJ (w + (w &&& (-w))) = 2 ^ (a + 1) * (m + 1) := by
    have ha : 2 ^ a ≤ uJ w := by rw [h1]; exact Nat.le_add_left _ _
    rw [uJ_add, low_u h1]
    have hl48' : uJ w < 281474976710656 := hl48
    rw [Nat.mod_eq_of_lt (by omega), h1, Nat.mul_add, Nat.pow_succ 2 a]
    omega
  have hs : ∀ x, bJ (w + (w &&& (-w))) x = if x < a + 1 then false else (if x - (a + 1) < c then false else if x - (a + 1) = c then true else h.testBit (x - (a + 1) - (c + 1))) := by
    intro x
    rw [← uJ_bit, hsum, h2]
    have := Nat.testBit_two_pow_mul_add (i := a + 1) (2 ^ (c + 1) * h + 2 ^ c) (b := 0) (Nat.pow_pos (by decide)) x
    rw [Nat.add_zero] at this
    rw [this, Nat.zero_testBit, tb_dec]
  have hb48 : a + 1 + c ≤ 48 := by
    rcases Nat.lt_or_ge 48 (a + 1 + c) with g | g
    · have k := hw (a + c)
      have k2 := hb (a + c) (by omega)
      rw [k2] at k
      by_cases e : c = 0
      · subst e
        rw [if_neg (by omega), if_pos (by omega)] at k
        cases k
      · rw [if_neg (by omega), if_neg (by omega), hm, if_pos (by omega)] at k
        cases k
    · exact g
  refine ⟨a, a + 1 + c, by omega, hb48, fun x hx => ?_, fun x hx1 hx2 => ?_, ?_, fun x => ?_, low_v h1⟩
  · rw [hw, if_pos hx]
  · rw [hw, if_neg (by omega)]
    by_cases e : x = a
    · rw [if_pos e]
    · rw [if_neg e, hm, if_pos (by omega)]
  · rw [hw, if_neg (by omega), if_neg (by omega), hm, if_neg (by omega), if_pos (by omega)]
  · unfold runV
    by_cases hx : x < 64
    · rw [bJ_and, bJ_xor, bJ_m1 hx, hs, hw]
      by_cases c1 : x < a
      · rw [if_pos c1, decide_eq_false (by omega)]; rfl
      · rw [if_neg c1]
        by_cases c2 : x = a
        · rw [if_pos c2, if_pos (by omega), decide_eq_true (by omega)]; rfl
        · rw [if_neg c2, if_neg (by omega), hm]
          by_cases c3 : x - (a + 1) < c
          · rw [if_pos c3, if_pos c3, decide_eq_true (by omega)]; rfl
          · rw [if_neg c3, if_neg c3, decide_eq_false (by omega)]
            by_cases c4 : x - (a + 1) = c
            · rw [if_pos c4, if_pos c4]; rfl
            · rw [if_neg c4, if_neg c4]
              cases h.testBit (x - (a + 1) - (c + 1)) <;> rfl
    · rw [bJ_ge _ (by omega), decide_eq_false (by omega)]

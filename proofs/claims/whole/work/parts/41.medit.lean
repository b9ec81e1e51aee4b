/-! the reference: counts, copies, changes, draws, turns -/
theorem bJ_i2l {v : Int} (h0 : 0 ≤ v) (h1 : v < 4096) (x : Nat) : bJ ((Int32.ofInt v).toInt64) x = bZ v x := by
  unfold bJ bZ
  rw [Int32.toBitVec_toInt64, BitVec.getLsbD_signExtend]
  have hm : (Int32.ofInt v).toBitVec.msb = false := by
    rw [BitVec.msb_eq_getLsbD_last]
    have h := bZ_nat h0 (by omega) 31
    unfold bZ at h
    show (Int32.ofInt v).toBitVec.getLsbD 31 = false
    rw [h]
    exact Nat.testBit_lt_two_pow (Nat.lt_of_lt_of_le (show v.toNat < 4096 by omega) (by decide))
  rw [hm]
  by_cases h2 : x < 32
  · rw [if_pos h2, decide_eq_true (show x < 64 by omega), Bool.true_and]
  · rw [if_neg h2, Bool.and_false]
    exact (BitVec.getLsbD_of_ge _ x (by omega)).symm
theorem l2i_b (b : Bool) : ((if b then Int64.ofNat 1 else Int64.ofNat 0).toInt32).toInt = b2i b := by cases b <;> decide
theorem c1003 {x : Int64} {M : Mm} {Q : Int → Mm → Prop} (h : bJ x 63 = false) (hQ : Q (cntB (bJ x) 64 : Int) M) : E_1003 x M Q := by
  refine s_1003_0 ?_
  have key := lp_up (P := fun k => L_1003_4 x (cntB (bJ x) k : Int) (k : Int) M Q) 64 ?_ ?_
  · exact key
  · intro k hk ih
    have hb := cntB_le (bJ x) k
    have hv : ((lsr x (k : Int)) &&& (Int64.ofNat 1)).toInt32.toInt = b2i (bJ x k) := by rw [bit_j hk h, l2i_b]
    refine s_1003_4 ⟨fun g => by omega, fun _ => ?_⟩
    rw [hv]
    have e : (cntB (bJ x) (k + 1) : Int) = cntB (bJ x) k + b2i (bJ x k) := by
      show ((cntB (bJ x) k + (bif bJ x k then 1 else 0) : Nat) : Int) = _
      cases bJ x k <;> rfl
    have hb2 := cntB_le (bJ x) (k + 1)
    refine ⟨by rw [← e]; omega, fun r er => ⟨by omega, ?_⟩⟩
    rw [er, ← e]
    exact ih
  · exact s_1003_4 ⟨fun _ => hQ, fun g => by omega⟩
theorem c1005 {M : Mm} {Q : Int → Mm → Prop} (hR : R12 (M.1 1101 0)) (hQ : Q (sizeV (M.1 1101 0)) M) : E_1005 M Q := by
  refine s_1005_0 ?_
  have key := lp_up (P := fun k => L_1005_4 (sumN (popV (M.1 1101 0)) k) (k : Int) M Q) 12 ?_ ?_
  · exact key
  · intro k hk ih
    have b1 := sumN_bd (g := popV (M.1 1101 0)) (B := 12) (n := k) (fun q _ => popV_bd _ q)
    have b2 := popV_bd (M.1 1101 0) k
    have hk' := hR k hk
    refine s_1005_4 ⟨fun g => by omega, fun _ => ⟨by omega, ?_⟩⟩
    rw [Int.toNat_natCast]
    have e : (cntB (bJ ((Int32.ofInt (M.1 1101 0 k)).toInt64)) 64 : Int) = popV (M.1 1101 0) k := by
      unfold popV
      rw [cntB_congr (fun x _ => bJ_i2l hk'.1 hk'.2 x)]
      congr 1
      exact cntB_ext (fun x hx => by rw [bZ_nat hk'.1 (by omega)]; exact Nat.testBit_lt_two_pow (Nat.lt_of_lt_of_le (show (M.1 1101 0 k).toNat < 4096 by omega) (Nat.pow_le_pow_right (n := 2) (i := 12) (by decide) hx))) (by decide)
    refine c1003 (by rw [bJ_i2l hk'.1 hk'.2, bZ_ge _ (by decide)]) ?_
    rw [e]
    exact ⟨by omega, fun r er => ⟨by omega, by rw [er]; exact ih⟩⟩
  · exact s_1005_4 ⟨fun _ => hQ, fun g => by omega⟩
theorem c1006_1101_1105 {x z : Nat} {M : Mm} {Q : Mm → Prop} (hx : x + 12 ≤ 12) (hz : z + 12 ≤ 12) (hQ : ∀ M', Fx (fun t j => t = 1105 ∧ j = 0) M M' → (∀ y, y < 12 → M'.1 1105 0 (z + y) = M.1 1101 0 (x + y)) → (∀ q, (q < z ∨ z + 12 ≤ q) → M'.1 1105 0 q = M.1 1105 0 q) → Q M') : E_1006_1101_1105 (x : Int) (z : Int) M Q := by
  refine s_1006_1101_1105_0 ?_
  have key := lp_up (P := fun k => ∀ M', (Fx (fun t j => t = 1105 ∧ j = 0) M M' ∧ (∀ y, y < k → M'.1 1105 0 (z + y) = M.1 1101 0 (x + y)) ∧ (∀ q, (q < z ∨ z + 12 ≤ q) → M'.1 1105 0 q = M.1 1105 0 q)) → L_1006_1101_1105_3 (x : Int) (z : Int) (k : Int) M' Q) 12 ?_ ?_
  · exact key M ⟨Fx.rf, fun y hy => absurd hy (Nat.not_lt_zero y), fun _ _ => rfl⟩
  · intro k hk ih M1 ⟨h1, h2, h3⟩
    have e1 : M1.1 1101 0 = M.1 1101 0 := (h1 1101 0 (by simp)).1
    refine s_1006_1101_1105_3 ⟨fun g => by omega, fun _ => ⟨by omega, fun M2 e => ⟨by omega, ?_⟩⟩⟩
    have t1 : ((z : Int) + (k : Int)).toNat = z + k := by omega
    have t2 : ((x : Int) + (k : Int)).toNat = x + k := by omega
    rw [t1, t2, e1] at e
    refine ih M2 ⟨h1.tr (by rw [e]; exact Fx.setI ⟨rfl, rfl⟩), fun y hy => ?_, fun q hq => ?_⟩
    · rw [e, setI_at]
      by_cases g : y = k
      · subst g; rw [ups_at]
      · rw [ups_ne (by omega)]; exact h2 y (by omega)
    · rw [e, setI_at, ups_ne (by omega)]
      exact h3 q hq
  · intro M1 ⟨h1, h2, h3⟩
    exact s_1006_1101_1105_3 ⟨fun _ => hQ M1 h1 h2 h3, fun g => by omega⟩
theorem c1006_1101_1102 {x z : Nat} {M : Mm} {Q : Mm → Prop} (hx : x + 12 ≤ 12) (hz : z + 12 ≤ 96) (hQ : ∀ M', Fx (fun t j => t = 1102 ∧ j = 0) M M' → (∀ y, y < 12 → M'.1 1102 0 (z + y) = M.1 1101 0 (x + y)) → (∀ q, (q < z ∨ z + 12 ≤ q) → M'.1 1102 0 q = M.1 1102 0 q) → Q M') : E_1006_1101_1102 (x : Int) (z : Int) M Q := by
  refine s_1006_1101_1102_0 ?_
  have key := lp_up (P := fun k => ∀ M', (Fx (fun t j => t = 1102 ∧ j = 0) M M' ∧ (∀ y, y < k → M'.1 1102 0 (z + y) = M.1 1101 0 (x + y)) ∧ (∀ q, (q < z ∨ z + 12 ≤ q) → M'.1 1102 0 q = M.1 1102 0 q)) → L_1006_1101_1102_3 (x : Int) (z : Int) (k : Int) M' Q) 12 ?_ ?_
  · exact key M ⟨Fx.rf, fun y hy => absurd hy (Nat.not_lt_zero y), fun _ _ => rfl⟩
  · intro k hk ih M1 ⟨h1, h2, h3⟩
    have e1 : M1.1 1101 0 = M.1 1101 0 := (h1 1101 0 (by simp)).1
    refine s_1006_1101_1102_3 ⟨fun g => by omega, fun _ => ⟨by omega, fun M2 e => ⟨by omega, ?_⟩⟩⟩
    have t1 : ((z : Int) + (k : Int)).toNat = z + k := by omega
    have t2 : ((x : Int) + (k : Int)).toNat = x + k := by omega
    rw [t1, t2, e1] at e
    refine ih M2 ⟨h1.tr (by rw [e]; exact Fx.setI ⟨rfl, rfl⟩), fun y hy => ?_, fun q hq => ?_⟩
    · rw [e, setI_at]
      by_cases g : y = k
      · subst g; rw [ups_at]
      · rw [ups_ne (by omega)]; exact h2 y (by omega)
    · rw [e, setI_at, ups_ne (by omega)]
      exact h3 q hq
  · intro M1 ⟨h1, h2, h3⟩
    exact s_1006_1101_1102_3 ⟨fun _ => hQ M1 h1 h2 h3, fun g => by omega⟩
theorem c1006_1101_1103 {x z : Nat} {M : Mm} {Q : Mm → Prop} (hx : x + 12 ≤ 12) (hz : z + 12 ≤ 96) (hQ : ∀ M', Fx (fun t j => t = 1103 ∧ j = 0) M M' → (∀ y, y < 12 → M'.1 1103 0 (z + y) = M.1 1101 0 (x + y)) → (∀ q, (q < z ∨ z + 12 ≤ q) → M'.1 1103 0 q = M.1 1103 0 q) → Q M') : E_1006_1101_1103 (x : Int) (z : Int) M Q := by
  refine s_1006_1101_1103_0 ?_
  have key := lp_up (P := fun k => ∀ M', (Fx (fun t j => t = 1103 ∧ j = 0) M M' ∧ (∀ y, y < k → M'.1 1103 0 (z + y) = M.1 1101 0 (x + y)) ∧ (∀ q, (q < z ∨ z + 12 ≤ q) → M'.1 1103 0 q = M.1 1103 0 q)) → L_1006_1101_1103_3 (x : Int) (z : Int) (k : Int) M' Q) 12 ?_ ?_
  · exact key M ⟨Fx.rf, fun y hy => absurd hy (Nat.not_lt_zero y), fun _ _ => rfl⟩
  · intro k hk ih M1 ⟨h1, h2, h3⟩
    have e1 : M1.1 1101 0 = M.1 1101 0 := (h1 1101 0 (by simp)).1
    refine s_1006_1101_1103_3 ⟨fun g => by omega, fun _ => ⟨by omega, fun M2 e => ⟨by omega, ?_⟩⟩⟩
    have t1 : ((z : Int) + (k : Int)).toNat = z + k := by omega
    have t2 : ((x : Int) + (k : Int)).toNat = x + k := by omega
    rw [t1, t2, e1] at e
    refine ih M2 ⟨h1.tr (by rw [e]; exact Fx.setI ⟨rfl, rfl⟩), fun y hy => ?_, fun q hq => ?_⟩
    · rw [e, setI_at]
      by_cases g : y = k
      · subst g; rw [ups_at]
      · rw [ups_ne (by omega)]; exact h2 y (by omega)
    · rw [e, setI_at, ups_ne (by omega)]
      exact h3 q hq
  · intro M1 ⟨h1, h2, h3⟩
    exact s_1006_1101_1103_3 ⟨fun _ => hQ M1 h1 h2 h3, fun g => by omega⟩
theorem c1006_1105_1101 {x z : Nat} {M : Mm} {Q : Mm → Prop} (hx : x + 12 ≤ 12) (hz : z + 12 ≤ 12) (hQ : ∀ M', Fx (fun t j => t = 1101 ∧ j = 0) M M' → (∀ y, y < 12 → M'.1 1101 0 (z + y) = M.1 1105 0 (x + y)) → (∀ q, (q < z ∨ z + 12 ≤ q) → M'.1 1101 0 q = M.1 1101 0 q) → Q M') : E_1006_1105_1101 (x : Int) (z : Int) M Q := by
  refine s_1006_1105_1101_0 ?_
  have key := lp_up (P := fun k => ∀ M', (Fx (fun t j => t = 1101 ∧ j = 0) M M' ∧ (∀ y, y < k → M'.1 1101 0 (z + y) = M.1 1105 0 (x + y)) ∧ (∀ q, (q < z ∨ z + 12 ≤ q) → M'.1 1101 0 q = M.1 1101 0 q)) → L_1006_1105_1101_3 (x : Int) (z : Int) (k : Int) M' Q) 12 ?_ ?_
  · exact key M ⟨Fx.rf, fun y hy => absurd hy (Nat.not_lt_zero y), fun _ _ => rfl⟩
  · intro k hk ih M1 ⟨h1, h2, h3⟩
    have e1 : M1.1 1105 0 = M.1 1105 0 := (h1 1105 0 (by simp)).1
    refine s_1006_1105_1101_3 ⟨fun g => by omega, fun _ => ⟨by omega, fun M2 e => ⟨by omega, ?_⟩⟩⟩
    have t1 : ((z : Int) + (k : Int)).toNat = z + k := by omega
    have t2 : ((x : Int) + (k : Int)).toNat = x + k := by omega
    rw [t1, t2, e1] at e
    refine ih M2 ⟨h1.tr (by rw [e]; exact Fx.setI ⟨rfl, rfl⟩), fun y hy => ?_, fun q hq => ?_⟩
    · rw [e, setI_at]
      by_cases g : y = k
      · subst g; rw [ups_at]
      · rw [ups_ne (by omega)]; exact h2 y (by omega)
    · rw [e, setI_at, ups_ne (by omega)]
      exact h3 q hq
  · intro M1 ⟨h1, h2, h3⟩
    exact s_1006_1105_1101_3 ⟨fun _ => hQ M1 h1 h2 h3, fun g => by omega⟩
theorem c1006_1102_1101 {x z : Nat} {M : Mm} {Q : Mm → Prop} (hx : x + 12 ≤ 96) (hz : z + 12 ≤ 12) (hQ : ∀ M', Fx (fun t j => t = 1101 ∧ j = 0) M M' → (∀ y, y < 12 → M'.1 1101 0 (z + y) = M.1 1102 0 (x + y)) → (∀ q, (q < z ∨ z + 12 ≤ q) → M'.1 1101 0 q = M.1 1101 0 q) → Q M') : E_1006_1102_1101 (x : Int) (z : Int) M Q := by
  refine s_1006_1102_1101_0 ?_
  have key := lp_up (P := fun k => ∀ M', (Fx (fun t j => t = 1101 ∧ j = 0) M M' ∧ (∀ y, y < k → M'.1 1101 0 (z + y) = M.1 1102 0 (x + y)) ∧ (∀ q, (q < z ∨ z + 12 ≤ q) → M'.1 1101 0 q = M.1 1101 0 q)) → L_1006_1102_1101_3 (x : Int) (z : Int) (k : Int) M' Q) 12 ?_ ?_
  · exact key M ⟨Fx.rf, fun y hy => absurd hy (Nat.not_lt_zero y), fun _ _ => rfl⟩
  · intro k hk ih M1 ⟨h1, h2, h3⟩
    have e1 : M1.1 1102 0 = M.1 1102 0 := (h1 1102 0 (by simp)).1
    refine s_1006_1102_1101_3 ⟨fun g => by omega, fun _ => ⟨by omega, fun M2 e => ⟨by omega, ?_⟩⟩⟩
    have t1 : ((z : Int) + (k : Int)).toNat = z + k := by omega
    have t2 : ((x : Int) + (k : Int)).toNat = x + k := by omega
    rw [t1, t2, e1] at e
    refine ih M2 ⟨h1.tr (by rw [e]; exact Fx.setI ⟨rfl, rfl⟩), fun y hy => ?_, fun q hq => ?_⟩
    · rw [e, setI_at]
      by_cases g : y = k
      · subst g; rw [ups_at]
      · rw [ups_ne (by omega)]; exact h2 y (by omega)
    · rw [e, setI_at, ups_ne (by omega)]
      exact h3 q hq
  · intro M1 ⟨h1, h2, h3⟩
    exact s_1006_1102_1101_3 ⟨fun _ => hQ M1 h1 h2 h3, fun g => by omega⟩
theorem c1006_1103_1101 {x z : Nat} {M : Mm} {Q : Mm → Prop} (hx : x + 12 ≤ 96) (hz : z + 12 ≤ 12) (hQ : ∀ M', Fx (fun t j => t = 1101 ∧ j = 0) M M' → (∀ y, y < 12 → M'.1 1101 0 (z + y) = M.1 1103 0 (x + y)) → (∀ q, (q < z ∨ z + 12 ≤ q) → M'.1 1101 0 q = M.1 1101 0 q) → Q M') : E_1006_1103_1101 (x : Int) (z : Int) M Q := by
  refine s_1006_1103_1101_0 ?_
  have key := lp_up (P := fun k => ∀ M', (Fx (fun t j => t = 1101 ∧ j = 0) M M' ∧ (∀ y, y < k → M'.1 1101 0 (z + y) = M.1 1103 0 (x + y)) ∧ (∀ q, (q < z ∨ z + 12 ≤ q) → M'.1 1101 0 q = M.1 1101 0 q)) → L_1006_1103_1101_3 (x : Int) (z : Int) (k : Int) M' Q) 12 ?_ ?_
  · exact key M ⟨Fx.rf, fun y hy => absurd hy (Nat.not_lt_zero y), fun _ _ => rfl⟩
  · intro k hk ih M1 ⟨h1, h2, h3⟩
    have e1 : M1.1 1103 0 = M.1 1103 0 := (h1 1103 0 (by simp)).1
    refine s_1006_1103_1101_3 ⟨fun g => by omega, fun _ => ⟨by omega, fun M2 e => ⟨by omega, ?_⟩⟩⟩
    have t1 : ((z : Int) + (k : Int)).toNat = z + k := by omega
    have t2 : ((x : Int) + (k : Int)).toNat = x + k := by omega
    rw [t1, t2, e1] at e
    refine ih M2 ⟨h1.tr (by rw [e]; exact Fx.setI ⟨rfl, rfl⟩), fun y hy => ?_, fun q hq => ?_⟩
    · rw [e, setI_at]
      by_cases g : y = k
      · subst g; rw [ups_at]
      · rw [ups_ne (by omega)]; exact h2 y (by omega)
    · rw [e, setI_at, ups_ne (by omega)]
      exact h3 q hq
  · intro M1 ⟨h1, h2, h3⟩
    exact s_1006_1103_1101_3 ⟨fun _ => hQ M1 h1 h2 h3, fun g => by omega⟩
theorem c1006_1101_1104 {x z : Nat} {M : Mm} {Q : Mm → Prop} (hx : x + 12 ≤ 12) (hz : z + 12 ≤ 12) (hQ : ∀ M', Fx (fun t j => t = 1104 ∧ j = 0) M M' → (∀ y, y < 12 → M'.1 1104 0 (z + y) = M.1 1101 0 (x + y)) → (∀ q, (q < z ∨ z + 12 ≤ q) → M'.1 1104 0 q = M.1 1104 0 q) → Q M') : E_1006_1101_1104 (x : Int) (z : Int) M Q := by
  refine s_1006_1101_1104_0 ?_
  have key := lp_up (P := fun k => ∀ M', (Fx (fun t j => t = 1104 ∧ j = 0) M M' ∧ (∀ y, y < k → M'.1 1104 0 (z + y) = M.1 1101 0 (x + y)) ∧ (∀ q, (q < z ∨ z + 12 ≤ q) → M'.1 1104 0 q = M.1 1104 0 q)) → L_1006_1101_1104_3 (x : Int) (z : Int) (k : Int) M' Q) 12 ?_ ?_
  · exact key M ⟨Fx.rf, fun y hy => absurd hy (Nat.not_lt_zero y), fun _ _ => rfl⟩
  · intro k hk ih M1 ⟨h1, h2, h3⟩
    have e1 : M1.1 1101 0 = M.1 1101 0 := (h1 1101 0 (by simp)).1
    refine s_1006_1101_1104_3 ⟨fun g => by omega, fun _ => ⟨by omega, fun M2 e => ⟨by omega, ?_⟩⟩⟩
    have t1 : ((z : Int) + (k : Int)).toNat = z + k := by omega
    have t2 : ((x : Int) + (k : Int)).toNat = x + k := by omega
    rw [t1, t2, e1] at e
    refine ih M2 ⟨h1.tr (by rw [e]; exact Fx.setI ⟨rfl, rfl⟩), fun y hy => ?_, fun q hq => ?_⟩
    · rw [e, setI_at]
      by_cases g : y = k
      · subst g; rw [ups_at]
      · rw [ups_ne (by omega)]; exact h2 y (by omega)
    · rw [e, setI_at, ups_ne (by omega)]
      exact h3 q hq
  · intro M1 ⟨h1, h2, h3⟩
    exact s_1006_1101_1104_3 ⟨fun _ => hQ M1 h1 h2 h3, fun g => by omega⟩
theorem c1006_1104_1105 {x z : Nat} {M : Mm} {Q : Mm → Prop} (hx : x + 12 ≤ 12) (hz : z + 12 ≤ 12) (hQ : ∀ M', Fx (fun t j => t = 1105 ∧ j = 0) M M' → (∀ y, y < 12 → M'.1 1105 0 (z + y) = M.1 1104 0 (x + y)) → (∀ q, (q < z ∨ z + 12 ≤ q) → M'.1 1105 0 q = M.1 1105 0 q) → Q M') : E_1006_1104_1105 (x : Int) (z : Int) M Q := by
  refine s_1006_1104_1105_0 ?_
  have key := lp_up (P := fun k => ∀ M', (Fx (fun t j => t = 1105 ∧ j = 0) M M' ∧ (∀ y, y < k → M'.1 1105 0 (z + y) = M.1 1104 0 (x + y)) ∧ (∀ q, (q < z ∨ z + 12 ≤ q) → M'.1 1105 0 q = M.1 1105 0 q)) → L_1006_1104_1105_3 (x : Int) (z : Int) (k : Int) M' Q) 12 ?_ ?_
  · exact key M ⟨Fx.rf, fun y hy => absurd hy (Nat.not_lt_zero y), fun _ _ => rfl⟩
  · intro k hk ih M1 ⟨h1, h2, h3⟩
    have e1 : M1.1 1104 0 = M.1 1104 0 := (h1 1104 0 (by simp)).1
    refine s_1006_1104_1105_3 ⟨fun g => by omega, fun _ => ⟨by omega, fun M2 e => ⟨by omega, ?_⟩⟩⟩
    have t1 : ((z : Int) + (k : Int)).toNat = z + k := by omega
    have t2 : ((x : Int) + (k : Int)).toNat = x + k := by omega
    rw [t1, t2, e1] at e
    refine ih M2 ⟨h1.tr (by rw [e]; exact Fx.setI ⟨rfl, rfl⟩), fun y hy => ?_, fun q hq => ?_⟩
    · rw [e, setI_at]
      by_cases g : y = k
      · subst g; rw [ups_at]
      · rw [ups_ne (by omega)]; exact h2 y (by omega)
    · rw [e, setI_at, ups_ne (by omega)]
      exact h3 q hq
  · intro M1 ⟨h1, h2, h3⟩
    exact s_1006_1104_1105_3 ⟨fun _ => hQ M1 h1 h2 h3, fun g => by omega⟩
theorem c1006_1105_1115 {x z : Nat} {M : Mm} {Q : Mm → Prop} (hx : x + 12 ≤ 12) (hz : z + 12 ≤ 12) (hQ : ∀ M', Fx (fun t j => t = 1115 ∧ j = 0) M M' → (∀ y, y < 12 → M'.1 1115 0 (z + y) = M.1 1105 0 (x + y)) → (∀ q, (q < z ∨ z + 12 ≤ q) → M'.1 1115 0 q = M.1 1115 0 q) → Q M') : E_1006_1105_1115 (x : Int) (z : Int) M Q := by
  refine s_1006_1105_1115_0 ?_
  have key := lp_up (P := fun k => ∀ M', (Fx (fun t j => t = 1115 ∧ j = 0) M M' ∧ (∀ y, y < k → M'.1 1115 0 (z + y) = M.1 1105 0 (x + y)) ∧ (∀ q, (q < z ∨ z + 12 ≤ q) → M'.1 1115 0 q = M.1 1115 0 q)) → L_1006_1105_1115_3 (x : Int) (z : Int) (k : Int) M' Q) 12 ?_ ?_
  · exact key M ⟨Fx.rf, fun y hy => absurd hy (Nat.not_lt_zero y), fun _ _ => rfl⟩
  · intro k hk ih M1 ⟨h1, h2, h3⟩
    have e1 : M1.1 1105 0 = M.1 1105 0 := (h1 1105 0 (by simp)).1
    refine s_1006_1105_1115_3 ⟨fun g => by omega, fun _ => ⟨by omega, fun M2 e => ⟨by omega, ?_⟩⟩⟩
    have t1 : ((z : Int) + (k : Int)).toNat = z + k := by omega
    have t2 : ((x : Int) + (k : Int)).toNat = x + k := by omega
    rw [t1, t2, e1] at e
    refine ih M2 ⟨h1.tr (by rw [e]; exact Fx.setI ⟨rfl, rfl⟩), fun y hy => ?_, fun q hq => ?_⟩
    · rw [e, setI_at]
      by_cases g : y = k
      · subst g; rw [ups_at]
      · rw [ups_ne (by omega)]; exact h2 y (by omega)
    · rw [e, setI_at, ups_ne (by omega)]
      exact h3 q hq
  · intro M1 ⟨h1, h2, h3⟩
    exact s_1006_1105_1115_3 ⟨fun _ => hQ M1 h1 h2 h3, fun g => by omega⟩
theorem c1007_1102 {n : Nat} {M : Mm} {Q : Mm → Prop} (hn : n ≤ 8) (hQ : ∀ M', Fx (fun t j => t = 1102 ∧ j = 0) M M' → (n ≠ 8 → (∀ y, y < 12 → M'.1 1102 0 (12 * n + y) = M.1 1101 0 y) ∧ ∀ q, q < 12 * n → M'.1 1102 0 q = M.1 1102 0 q) → (n = 8 → (∀ y, y < 12 → M'.1 1102 0 (84 + y) = M.1 1101 0 y) ∧ ∀ q, q < 84 → M'.1 1102 0 q = M.1 1102 0 (q + 12)) → Q M') : E_1007_1102 (n : Int) M Q := by
  refine s_1007_1102_0 ⟨fun g => ⟨by omega, ?_⟩, fun g => ?_⟩
  · have t1 : (12 * (n : Int)) = ((12 * n : Nat) : Int) := by omega
    rw [t1]
    refine c1006_1101_1102 (x := 0) (by omega) (by omega) fun M1 f1 h1 h2 => hQ M1 f1 (fun _ => ⟨fun y hy => ?_, fun q hq => h2 q (Or.inl hq)⟩) (fun g2 => by omega)
    rw [h1 y hy, Nat.zero_add]
  · have key := lp_up (P := fun k => ∀ M', (Fx (fun t j => t = 1102 ∧ j = 0) M M' ∧ (∀ q, q < k → M'.1 1102 0 q = M.1 1102 0 (q + 12)) ∧ (∀ q, k ≤ q → M'.1 1102 0 q = M.1 1102 0 q)) → L_1007_1102_8 (n : Int) (k : Int) M' Q) 84 ?_ ?_
    · exact key M ⟨Fx.rf, fun y hy => absurd hy (Nat.not_lt_zero y), fun _ _ => rfl⟩
    · intro k hk ih M1 ⟨h1, h2, h3⟩
      refine s_1007_1102_8 ⟨fun g => by omega, fun _ => ⟨by omega, fun M2 e => ⟨by omega, ?_⟩⟩⟩
      have t1 : ((k : Int) + 12).toNat = k + 12 := by omega
      rw [t1, Int.toNat_natCast] at e
      refine ih M2 ⟨h1.tr (by rw [e]; exact Fx.setI ⟨rfl, rfl⟩), fun q hq => ?_, fun q hq => ?_⟩
      · rw [e, setI_at]
        by_cases g : q = k
        · subst g; rw [ups_at]; exact h3 _ (by omega)
        · rw [ups_ne (by omega)]; exact h2 q (by omega)
      · rw [e, setI_at, ups_ne (by omega)]
        exact h3 q (by omega)
    · intro M1 ⟨h1, h2, h3⟩
      have e1 : M1.1 1101 0 = M.1 1101 0 := (h1 1101 0 (by simp)).1
      refine s_1007_1102_8 ⟨fun _ => ?_, fun g => by omega⟩
      refine c1006_1101_1102 (x := 0) (z := 84) (by omega) (by omega) fun M2 f2 g1 g2 => hQ M2 (h1.tr f2) (fun g => by omega) (fun _ => ⟨fun y hy => ?_, fun q hq => ?_⟩)
      · rw [g1 y hy, Nat.zero_add, e1]
      · rw [g2 q (Or.inl hq)]
        exact h2 q hq
theorem c1007_1103 {n : Nat} {M : Mm} {Q : Mm → Prop} (hn : n ≤ 8) (hQ : ∀ M', Fx (fun t j => t = 1103 ∧ j = 0) M M' → (n ≠ 8 → (∀ y, y < 12 → M'.1 1103 0 (12 * n + y) = M.1 1101 0 y) ∧ ∀ q, q < 12 * n → M'.1 1103 0 q = M.1 1103 0 q) → (n = 8 → (∀ y, y < 12 → M'.1 1103 0 (84 + y) = M.1 1101 0 y) ∧ ∀ q, q < 84 → M'.1 1103 0 q = M.1 1103 0 (q + 12)) → Q M') : E_1007_1103 (n : Int) M Q := by
  refine s_1007_1103_0 ⟨fun g => ⟨by omega, ?_⟩, fun g => ?_⟩
  · have t1 : (12 * (n : Int)) = ((12 * n : Nat) : Int) := by omega
    rw [t1]
    refine c1006_1101_1103 (x := 0) (by omega) (by omega) fun M1 f1 h1 h2 => hQ M1 f1 (fun _ => ⟨fun y hy => ?_, fun q hq => h2 q (Or.inl hq)⟩) (fun g2 => by omega)
    rw [h1 y hy, Nat.zero_add]
  · have key := lp_up (P := fun k => ∀ M', (Fx (fun t j => t = 1103 ∧ j = 0) M M' ∧ (∀ q, q < k → M'.1 1103 0 q = M.1 1103 0 (q + 12)) ∧ (∀ q, k ≤ q → M'.1 1103 0 q = M.1 1103 0 q)) → L_1007_1103_8 (n : Int) (k : Int) M' Q) 84 ?_ ?_
    · exact key M ⟨Fx.rf, fun y hy => absurd hy (Nat.not_lt_zero y), fun _ _ => rfl⟩
    · intro k hk ih M1 ⟨h1, h2, h3⟩
      refine s_1007_1103_8 ⟨fun g => by omega, fun _ => ⟨by omega, fun M2 e => ⟨by omega, ?_⟩⟩⟩
      have t1 : ((k : Int) + 12).toNat = k + 12 := by omega
      rw [t1, Int.toNat_natCast] at e
      refine ih M2 ⟨h1.tr (by rw [e]; exact Fx.setI ⟨rfl, rfl⟩), fun q hq => ?_, fun q hq => ?_⟩
      · rw [e, setI_at]
        by_cases g : q = k
        · subst g; rw [ups_at]; exact h3 _ (by omega)
        · rw [ups_ne (by omega)]; exact h2 q (by omega)
      · rw [e, setI_at, ups_ne (by omega)]
        exact h3 q (by omega)
    · intro M1 ⟨h1, h2, h3⟩
      have e1 : M1.1 1101 0 = M.1 1101 0 := (h1 1101 0 (by simp)).1
      refine s_1007_1103_8 ⟨fun _ => ?_, fun g => by omega⟩
      refine c1006_1101_1103 (x := 0) (z := 84) (by omega) (by omega) fun M2 f2 g1 g2 => hQ M2 (h1.tr f2) (fun g => by omega) (fun _ => ⟨fun y hy => ?_, fun q hq => ?_⟩)
      · rw [g1 y hy, Nat.zero_add, e1]
      · rw [g2 q (Or.inl hq)]
        exact h2 q hq
/-- a change of the reference: what stands in next becomes the region -/
theorem c1008 {n : Nat} {M : Mm} {Q : Mm → Prop} (hn : M.1 10 0 6 = n) (h8 : n ≤ 8) (hQ : ∀ M', Fx (fun t j => (t = 10 ∨ t = 1102 ∨ t = 1101) ∧ j = 0) M M' → (∀ y, y < 12 → M'.1 1101 0 y = M.1 1105 0 y) → M'.1 10 0 6 = (if n = 8 then 8 else n + 1 : Nat) → M'.1 10 0 7 = 0 → M'.1 10 0 9 = 0 → (∀ k, k ≠ 6 → k ≠ 7 → k ≠ 9 → M'.1 10 0 k = M.1 10 0 k) → (n ≠ 8 → (∀ y, y < 12 → M'.1 1102 0 (12 * n + y) = M.1 1101 0 y) ∧ ∀ q, q < 12 * n → M'.1 1102 0 q = M.1 1102 0 q) → (n = 8 → (∀ y, y < 12 → M'.1 1102 0 (84 + y) = M.1 1101 0 y) ∧ ∀ q, q < 84 → M'.1 1102 0 q = M.1 1102 0 (q + 12)) → Q M') : E_1008 M Q := by
  refine s_1008_0 ?_
  rw [hn]
  refine c1007_1102 h8 fun M1 f1 h1 h2 => ?_
  have a1 : M1.1 10 0 = M.1 10 0 := (f1 10 0 (by simp)).1
  rw [a1, hn]
  refine ⟨fun _ => by omega, fun b eb M2 e2 M3 e3 => ?_⟩
  refine c1006_1105_1101 (x := 0) (z := 0) (by omega) (by omega) fun M4 f4 g1 g2 => fun M5 e5 => ?_
  have b1 : M3.1 10 0 = ups (ups (M.1 10 0) 6 b) 7 0 := by rw [e3, setI_at, e2, setI_at, a1]
  have b2 : M4.1 10 0 = M3.1 10 0 := (f4 10 0 (by simp)).1
  have b3 : M5.1 10 0 = ups (ups (ups (M.1 10 0) 6 b) 7 0) 9 0 := by rw [e5, setI_at, b2, b1]
  have b4 : M5.1 1102 0 = M1.1 1102 0 := by rw [e5, setI_ne (by omega), (f4 1102 0 (by simp)).1, e3, setI_ne (by omega), e2, setI_ne (by omega)]
  have b5 : M5.1 1101 0 = M4.1 1101 0 := by rw [e5, setI_ne (by omega)]
  have b6 : M3.1 1105 0 = M.1 1105 0 := by rw [e3, setI_ne (by omega), e2, setI_ne (by omega), (f1 1105 0 (by simp)).1]
  refine hQ M5 ?_ ?_ ?_ ?_ ?_ ?_ ?_ ?_
  · refine ((f1.up fun t j g => ⟨Or.inr (Or.inl g.1), g.2⟩).tr ?_).tr ((f4.up fun t j g => ⟨Or.inr (Or.inr g.1), g.2⟩).tr ?_)
    · rw [e3, e2]
      exact (Fx.setI ⟨Or.inl rfl, rfl⟩).tr (Fx.setI ⟨Or.inl rfl, rfl⟩)
    · rw [e5]
      exact Fx.setI ⟨Or.inl rfl, rfl⟩
  · intro y hy
    have := g1 y hy
    rw [Nat.zero_add] at this
    rw [b5, this, b6]
  · rw [b3, ups_ne (by omega), ups_ne (by omega), ups_at, eb]
    by_cases g : n = 8
    · rw [if_neg (by omega), if_pos g]; rfl
    · rw [if_pos (by omega), if_neg g]; rfl
  · rw [b3, ups_ne (by omega), ups_at]
  · rw [b3, ups_at]
  · intro k k1 k2 k3
    rw [b3, ups_ne k3, ups_ne k2, ups_ne k1]
  · intro g
    rw [b4]
    exact h1 g
  · intro g
    rw [b4]
    exact h2 g
theorem c1009 {o x y w h : Int} {M : Mm} {Q : Mm → Prop} (hx : 0 ≤ x) (hy : 0 ≤ y) (hw : 1 ≤ w) (hh : 1 ≤ h) (hxw : x + w ≤ 12) (hyh : y + h ≤ 12) (hQ : ∀ M', Fx (fun t j => t = 1105 ∧ j = 0) M M' → (∀ q, q < 12 → M'.1 1105 0 q = chV o x y w h (M.1 1105 0) q) → Q M') : E_1009 o x y w h M Q := by
  have b1 := ish1 (k := w) (by omega) (by omega)
  refine s_1009_0 ⟨by omega, fun m em => ?_⟩
  obtain ⟨a, rfl⟩ : ∃ n : Nat, y = n := ⟨y.toNat, by omega⟩
  obtain ⟨b, hb⟩ : ∃ n : Nat, (a : Int) + h = n := ⟨((a : Int) + h).toNat, by omega⟩
  have key := lp_from (P := fun k => ∀ M', (Fx (fun t j => t = 1105 ∧ j = 0) M M' ∧ (∀ q, q < k → M'.1 1105 0 q = chV o x a w h (M.1 1105 0) q) ∧ (∀ q, k ≤ q → M'.1 1105 0 q = M.1 1105 0 q)) → L_1009_13 o x a w h m (k : Int) M' Q) a b (by omega) ?_ ?_
  · exact key M ⟨Fx.rf, fun q hq => (chV_out (by omega)).symm, fun _ _ => rfl⟩
  · intro k hk1 hk ih M1 ⟨h1, h2, h3⟩
    refine s_1009_13 ⟨by omega, fun g => by omega, fun _ => ⟨fun _ _ => by omega, fun _ _ => by omega, fun _ => by omega, fun v ev => ⟨by omega, fun M2 e => ⟨by omega, ?_⟩⟩⟩⟩
    rw [Int.toNat_natCast, h3 k (Nat.le_refl k)] at ev
    rw [Int.toNat_natCast] at e
    have ev2 : v = chV o x a w h (M.1 1105 0) k := by
      rw [chV_in (by omega) (by omega), ev, em]
      unfold cmbV mskV
      (repeat' split) <;> first | rfl | (exfalso; omega)
    refine ih M2 ⟨h1.tr (by rw [e]; exact Fx.setI ⟨rfl, rfl⟩), fun q hq => ?_, fun q hq => ?_⟩
    · rw [e, setI_at]
      by_cases g : q = k
      · subst g; rw [ups_at, ev2]
      · rw [ups_ne g]; exact h2 q (by omega)
    · rw [e, setI_at, ups_ne (by omega)]
      exact h3 q (by omega)
  · intro M1 ⟨h1, h2, h3⟩
    refine s_1009_13 ⟨by omega, fun _ => hQ M1 h1 fun q hq => ?_, fun g => by omega⟩
    by_cases g : q < b
    · exact h2 q g
    · rw [h3 q (by omega), chV_out (by omega)]
/-- turns: b = 0 a turn, else a mirror -/
theorem c1020 {b : Int} {M : Mm} {Q : Mm → Prop} (hR : R12 (M.1 1105 0)) (hQ : ∀ M', Fx (fun t j => (t = 1105 ∨ t = 1115) ∧ j = 0) M M' → (∀ v, v < 12 → M'.1 1105 0 v = if b = 0 then tq (M.1 1105 0) v 12 else mq (M.1 1105 0) v 12) → Q M') : E_1020 b M Q := by
  refine s_1020_0 ?_
  generalize hf : M.1 1105 0 = f at *
  refine c1006_1105_1115 (x := 0) (z := 0) (by omega) (by omega) fun M1 f1 h1 _ => ?_
  have a1 : ∀ y, y < 12 → M1.1 1115 0 y = f y := by
    intro y hy
    have := h1 y hy
    rw [Nat.zero_add, hf] at this
    exact this
  have hbit : ∀ {x y : Nat} {g : Nat → Int}, (∀ y, y < 12 → g y = f y) → x < 12 → y < 12 → ian (isr (g y) x) 1 = if cel f x y then 1 else 0 := by
    intro x y g hg hx hy
    have := bit_row hR (x := x) (y := y) (by omega)
    rw [Int.toNat_natCast] at this
    rw [hg y hy]
    exact this
  -- cleared
  have clr := lp_up (P := fun k => ∀ M', (Fx (fun t j => t = 1105 ∧ j = 0) M1 M' ∧ (∀ q, q < k → M'.1 1105 0 q = 0)) → L_1020_17 b (k : Int) M' Q) 12 ?_ ?_
  · exact clr M1 ⟨Fx.rf, fun y hy => absurd hy (Nat.not_lt_zero y)⟩
  · intro k hk ih M2 ⟨g1, g2⟩
    refine s_1020_17 ⟨fun g => by omega, fun _ => ⟨by omega, fun M3 e => ⟨by omega, ?_⟩⟩⟩
    rw [Int.toNat_natCast] at e
    refine ih M3 ⟨g1.tr (by rw [e]; exact Fx.setI ⟨rfl, rfl⟩), fun q hq => ?_⟩
    rw [e, setI_at]
    by_cases g : q = k
    · subst g; rw [ups_at]
    · rw [ups_ne g]; exact g2 q (by omega)
  · intro M2 ⟨g1, g2⟩
    refine s_1020_17 ⟨fun _ => ?_, fun g => by omega⟩
    have key := lp_up (P := fun y => ∀ M', (Fx (fun t j => t = 1105 ∧ j = 0) M1 M' ∧ (b = 0 → ∀ v, v < 12 → M'.1 1105 0 v = tq f v y) ∧ (b ≠ 0 → (∀ v, v < y → M'.1 1105 0 v = mq f v 12) ∧ ∀ v, y ≤ v → v < 12 → M'.1 1105 0 v = 0)) → L_1020_38 b (y : Int) M' Q) 12 ?_ ?_
    · exact key M2 ⟨g1, fun _ v hv => g2 v hv, fun _ => ⟨fun v hv => absurd hv (Nat.not_lt_zero v), fun v _ hv => g2 v hv⟩⟩
    · intro y hy ih M3 ⟨k1, k2, k3⟩
      refine s_1020_38 ⟨fun g => by omega, fun _ => ?_⟩
      have key2 := lp_up (P := fun x => ∀ M', (Fx (fun t j => t = 1105 ∧ j = 0) M1 M' ∧ (b = 0 → (∀ v, v < x → M'.1 1105 0 v = tq f v (y + 1)) ∧ ∀ v, x ≤ v → v < 12 → M'.1 1105 0 v = tq f v y) ∧ (b ≠ 0 → (∀ v, v < y → M'.1 1105 0 v = mq f v 12) ∧ M'.1 1105 0 y = mq f y x ∧ ∀ v, y < v → v < 12 → M'.1 1105 0 v = 0)) → L_1020_47 b (y : Int) (x : Int) M' Q) 12 ?_ ?_
      · exact key2 M3 ⟨k1, fun hb => ⟨fun v hv => absurd hv (Nat.not_lt_zero v), fun v _ hv => k2 hb v hv⟩, fun hb => ⟨(k3 hb).1, (k3 hb).2 y (Nat.le_refl y) hy, fun v h4 h5 => (k3 hb).2 v (by omega) h5⟩⟩
      · intro x hx ih2 M4 ⟨m1, m2, m3⟩
        have e15 : ∀ y, y < 12 → M4.1 1115 0 y = f y := fun y hy => by rw [(m1 1115 0 (by simp)).1]; exact a1 y hy
        refine s_1020_47 ⟨fun g => by omega, fun _ => ⟨by omega, ?_⟩⟩
        rw [Int.toNat_natCast, hbit e15 hx hy]
        by_cases hc : cel f x y = true
        · rw [if_pos hc]
          refine ⟨fun _ => ⟨fun hb => ⟨by omega, fun M5 e => ⟨by omega, ih2 M5 ⟨m1.tr (by rw [e]; exact Fx.setI ⟨rfl, rfl⟩), fun _ => ⟨fun v hv => ?_, fun v h5 h6 => ?_⟩, fun hb2 => absurd hb hb2⟩⟩⟩, fun hb => ⟨by omega, fun M5 e => ⟨by omega, ih2 M5 ⟨m1.tr (by rw [e]; exact Fx.setI ⟨rfl, rfl⟩), fun hb2 => absurd hb2 hb, fun _ => ⟨fun v hv => ?_, ?_, fun v h5 h6 => ?_⟩⟩⟩⟩⟩, fun g => by omega⟩
          · rw [e, Int.toNat_natCast, setI_at]
            by_cases h7 : v = x
            · subst h7; rw [ups_at, (m2 hb).2 v (Nat.le_refl v) hx, tq, if_pos hc]
            · rw [ups_ne h7]; exact (m2 hb).1 v (by omega)
          · rw [e, Int.toNat_natCast, setI_at, ups_ne (by omega)]
            exact (m2 hb).2 v (by omega) h6
          · rw [e, setI_at, ups_ne (by omega)]
            exact (m3 hb).1 v hv
          · rw [e, setI_at, ups_at, (m3 hb).2.1, mq, if_pos hc]
          · rw [e, setI_at, ups_ne (by omega)]
            exact (m3 hb).2.2 v h5 h6
        · rw [if_neg hc]
          refine ⟨fun g => absurd rfl g, fun _ => ⟨by omega, ih2 M4 ⟨m1, fun hb => ⟨fun v hv => ?_, fun v h5 h6 => (m2 hb).2 v (by omega) h6⟩, fun hb => ⟨(m3 hb).1, ?_, (m3 hb).2.2⟩⟩⟩⟩
          · by_cases h7 : v = x
            · subst h7; rw [(m2 hb).2 v (Nat.le_refl v) hx, tq, if_neg hc]
            · exact (m2 hb).1 v (by omega)
          · rw [(m3 hb).2.1, mq, if_neg hc]
      · intro M4 ⟨m1, m2, m3⟩
        refine s_1020_47 ⟨fun _ => ⟨by omega, ih M4 ⟨m1, fun hb => (m2 hb).1, fun hb => ⟨fun v hv => ?_, fun v h5 h6 => (m3 hb).2.2 v (by omega) h6⟩⟩⟩, fun g => by omega⟩
        by_cases h7 : v = y
        · subst h7; exact (m3 hb).2.1
        · exact (m3 hb).1 v (by omega)
    · intro M3 ⟨k1, k2, k3⟩
      refine s_1020_38 ⟨fun _ => hQ M3 ((f1.up fun t j g => ⟨Or.inr g.1, g.2⟩).tr (k1.up fun t j g => ⟨Or.inl g.1, g.2⟩)) fun v hv => ?_, fun g => by omega⟩
      by_cases hb : b = 0
      · rw [if_pos hb]; exact k2 hb v hv
      · rw [if_neg hb]; exact (k3 hb).1 v hv

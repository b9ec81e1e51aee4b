/-! running the commands; the reference reads and runs -/
theorem msk_hi {x w : Int} (hx : 0 ≤ x) (hw : 0 ≤ w) (hxw : x + w ≤ 12) {b : Nat} (hb : 12 ≤ b) : bZ (mskV x w) b = false := by
  obtain ⟨k, rfl⟩ : ∃ k : Nat, x = k := ⟨x.toNat, by omega⟩
  obtain ⟨n, rfl⟩ : ∃ n : Nat, w = n := ⟨w.toNat, by omega⟩
  unfold mskV
  rw [bZ_shl (by omega)]
  have h1 : ish 1 (n : Int) = ((2 ^ n : Nat) : Int) := of_decide_eq_true (List.all_eq_true.mp ish1_b n (List.mem_range.mpr (by omega)))
  have h2 := ish1 (k := (n : Int)) (by omega) (by omega)
  have e : bZ (ish 1 (n : Int) - 1) (b - k) = false := by
    rw [bZ_nat (by omega) (by omega), h1, show (((2 ^ n : Nat) : Int) - 1).toNat = 2 ^ n - 1 by omega, Nat.testBit_two_pow_sub_one]
    exact decide_eq_false (by omega)
  rw [e, Bool.and_false, Bool.and_false]
theorem cmb_12 {o r m : Int} (hr : 0 ≤ r ∧ r < 4096) (hm : ∀ b, 12 ≤ b → bZ m b = false) : 0 ≤ cmbV o r m ∧ cmbV o r m < 4096 := by
  unfold cmbV
  split
  · exact lt12 (ti_in _) fun b hb => by rw [bZ_or, bZ_hi hr.1 hr.2 hb, hm b hb]; rfl
  · split
    · exact lt12 (ti_in _) fun b hb => by rw [bZ_and, bZ_hi hr.1 hr.2 hb]; rfl
    · exact lt12 (ti_in _) fun b hb => by rw [bZ_xor, bZ_hi hr.1 hr.2 hb, hm b hb]; rfl
theorem ch_12 {o x y w h : Int} {f : Nat → Int} (hR : R12 f) (hx : 0 ≤ x) (hw : 0 ≤ w) (hxw : x + w ≤ 12) : R12 (chV o x y w h f) := by
  intro q hq
  unfold chV
  split
  · exact cmb_12 (hR q hq) fun b hb => msk_hi hx hw hxw hb
  · exact hR q hq
theorem c405 {i : Nat} {o x y w h : Int} {M : Mm} {Q : Mm → Prop} (hx : 0 ≤ x) (hy : 0 ≤ y) (hw : 0 ≤ w) (hh : 0 ≤ h) (hxw : x + w ≤ 12) (hyh : y + h ≤ 12) (hQ : ∀ M', Fx (fun t j => t = 500 ∧ j = i) M M' → (∀ q, q < 12 → M'.1 500 i q = chV o x y w h (M.1 500 i) q) → Q M') : E_405 i o x y w h M Q := by
  refine Ev.mono (e405 hx hy hw hh hxw hyh) fun v M' g => ⟨g.2, hQ M' (by rw [g.1]; exact Fx.setA ⟨rfl, rfl⟩) fun q hq => ?_⟩
  rw [g.1, setA_at]
  exact if_pos hq
/-! the reference reads -/

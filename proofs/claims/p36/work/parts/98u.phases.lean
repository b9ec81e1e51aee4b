/-! the contours of a phase, as the law walks them -/
theorem mul_bd {a b : Int} (ha : -48 ≤ a ∧ a ≤ 48) (hb : -48 ≤ b ∧ b ≤ 48) : -2304 ≤ a * b ∧ a * b ≤ 2304 := by
  have h1 : (a * b).natAbs ≤ 48 * 48 := by rw [Int.natAbs_mul]; exact Nat.mul_le_mul (by omega) (by omega)
  omega
theorem ixc_per {a m j : Nat} (h : j < m) : ixc a m (m + j) = ixc a m j := by rw [ixc_m, ixc_lt h]
theorem sum_bd {g : Nat → Int} {B : Int} : ∀ {n : Nat}, (∀ i, i < n → -B ≤ g i ∧ g i ≤ B) → -(B * n) ≤ sumN g n ∧ sumN g n ≤ B * n
  | 0, _ => by
    show -(B * ((0 : Nat) : Int)) ≤ (0 : Int) ∧ (0 : Int) ≤ B * ((0 : Nat) : Int)
    simp
  | n + 1, h => by
    have ih := sum_bd (n := n) fun i hi => h i (by omega)
    have := h n (by omega)
    show -(B * ((n + 1 : Nat) : Int)) ≤ sumN g n + g n ∧ sumN g n + g n ≤ B * ((n + 1 : Nat) : Int)
    rw [show ((n + 1 : Nat) : Int) = (n : Int) + 1 by omega, Int.mul_add]
    omega
section PW
variable {P : Int → Int → Bool} {n : Nat} {st : Nat → Nat} {xs ys : Nat → Int} {ln : Nat → Nat} {c m : Nat}
theorem Ctl.sd2 (h : Ctl P n st xs ys ln) (hc : c < n) (hm : st (c + 1) = st c + m) (h4 : 4 ≤ m) {i : Nat} (hi : i < m) : Sd (fun i => xs (ixc (st c) m i)) (fun i => ys (ixc (st c) m i)) (fun i => lvd P (xs (ixc (st c) m i)) (ys (ixc (st c) m i))) (i + 1) := by
  by_cases g : i + 1 < m
  · exact h.sd hc hm g
  · have e : i + 1 = m := by omega
    have h0 := h.sd hc hm (i := 0) (by omega)
    have e0 : ixc (st c) m m = ixc (st c) m 0 := ixc_per (j := 0) (by omega)
    have e1 : ixc (st c) m (m + 1) = ixc (st c) m (0 + 1) := ixc_per (j := 1) (by omega)
    unfold Sd at h0 ⊢
    simp only at h0 ⊢
    rw [e, e0, e1]
    exact h0
theorem Ctl.sgn (h : Ctl P n st xs ys ln) (hc : c < n) (hm : st (c + 1) = st c + m) (h4 : 4 ≤ m) {i : Nat} (hi : i < m) : (if (xs (ixc (st c) m (i + 1)) - xs (ixc (st c) m i)) * (ys (ixc (st c) m (i + 2)) - ys (ixc (st c) m (i + 1))) - (ys (ixc (st c) m (i + 1)) - ys (ixc (st c) m i)) * (xs (ixc (st c) m (i + 2)) - xs (ixc (st c) m (i + 1))) ≤ 0 then (-1 : Int) else 1) = tnV P (xs (ixc (st c) m (i + 1))) (ys (ixc (st c) m (i + 1))) := by
  have s1 := h.sd hc hm hi
  have s2 := h.sd2 hc hm h4 hi
  have t := h.tn hc hm hi
  unfold Sd at s1 s2
  simp only at s1 s2
  unfold tnV
  have e2 : i + 1 + 1 = i + 2 := rfl
  rw [e2] at s2
  generalize four P (xs (ixc (st c) m (i + 1))) (ys (ixc (st c) m (i + 1))) = fo at *
  generalize lvd P (xs (ixc (st c) m (i + 1))) (ys (ixc (st c) m (i + 1))) = d' at *
  generalize lvd P (xs (ixc (st c) m i)) (ys (ixc (st c) m i)) = d at *
  generalize xs (ixc (st c) m i) = x0 at *
  generalize ys (ixc (st c) m i) = y0 at *
  generalize xs (ixc (st c) m (i + 1)) = x1 at *
  generalize ys (ixc (st c) m (i + 1)) = y1 at *
  generalize xs (ixc (st c) m (i + 2)) = x2 at *
  generalize ys (ixc (st c) m (i + 2)) = y2 at *
  have pp : ∀ {a b : Int}, 0 < a → 0 < b → 0 < a * b := fun h1 h2 => Int.mul_pos h1 h2
  have pn : ∀ {a b : Int}, 0 < a → b < 0 → a * b < 0 := fun h1 h2 => Int.mul_neg_of_pos_of_neg h1 h2
  have np : ∀ {a b : Int}, a < 0 → 0 < b → a * b < 0 := fun h1 h2 => Int.mul_neg_of_neg_of_pos h1 h2
  have nn : ∀ {a b : Int}, a < 0 → b < 0 → 0 < a * b := fun h1 h2 => Int.mul_pos_of_neg_of_neg h1 h2
  by_cases g : fo = 1
  · have t := t.1 g
    rw [if_pos g]
    refine if_neg ?_
    rcases s1 with ⟨a, b, e⟩ | ⟨a, b, e⟩ | ⟨a, b, e⟩ | ⟨a, b, e⟩
    · rcases s2 with ⟨a', b', e'⟩ | ⟨a', b', e'⟩ | ⟨a', b', e'⟩ | ⟨a', b', e'⟩ <;> try (exfalso; omega)
      have := pp (a := x1 - x0) (b := y2 - y1) (by omega) (by omega)
      rw [show y1 - y0 = 0 by omega, Int.zero_mul]; omega
    · rcases s2 with ⟨a', b', e'⟩ | ⟨a', b', e'⟩ | ⟨a', b', e'⟩ | ⟨a', b', e'⟩ <;> try (exfalso; omega)
      have := pn (a := y1 - y0) (b := x2 - x1) (by omega) (by omega)
      rw [show x1 - x0 = 0 by omega, Int.zero_mul]; omega
    · rcases s2 with ⟨a', b', e'⟩ | ⟨a', b', e'⟩ | ⟨a', b', e'⟩ | ⟨a', b', e'⟩ <;> try (exfalso; omega)
      have := nn (a := x1 - x0) (b := y2 - y1) (by omega) (by omega)
      rw [show y1 - y0 = 0 by omega, Int.zero_mul]; omega
    · rcases s2 with ⟨a', b', e'⟩ | ⟨a', b', e'⟩ | ⟨a', b', e'⟩ | ⟨a', b', e'⟩ <;> try (exfalso; omega)
      have := np (a := y1 - y0) (b := x2 - x1) (by omega) (by omega)
      rw [show x1 - x0 = 0 by omega, Int.zero_mul]; omega
  · have t := t.2 g
    rw [if_neg g]
    refine if_pos ?_
    rcases s1 with ⟨a, b, e⟩ | ⟨a, b, e⟩ | ⟨a, b, e⟩ | ⟨a, b, e⟩
    · rcases s2 with ⟨a', b', e'⟩ | ⟨a', b', e'⟩ | ⟨a', b', e'⟩ | ⟨a', b', e'⟩ <;> try (exfalso; omega)
      have := pn (a := x1 - x0) (b := y2 - y1) (by omega) (by omega)
      rw [show y1 - y0 = 0 by omega, Int.zero_mul]; omega
    · rcases s2 with ⟨a', b', e'⟩ | ⟨a', b', e'⟩ | ⟨a', b', e'⟩ | ⟨a', b', e'⟩ <;> try (exfalso; omega)
      have := pp (a := y1 - y0) (b := x2 - x1) (by omega) (by omega)
      rw [show x1 - x0 = 0 by omega, Int.zero_mul]; omega
    · rcases s2 with ⟨a', b', e'⟩ | ⟨a', b', e'⟩ | ⟨a', b', e'⟩ | ⟨a', b', e'⟩ <;> try (exfalso; omega)
      have := np (a := x1 - x0) (b := y2 - y1) (by omega) (by omega)
      rw [show y1 - y0 = 0 by omega, Int.zero_mul]; omega
    · rcases s2 with ⟨a', b', e'⟩ | ⟨a', b', e'⟩ | ⟨a', b', e'⟩ | ⟨a', b', e'⟩ <;> try (exfalso; omega)
      have := nn (a := y1 - y0) (b := x2 - x1) (by omega) (by omega)
      rw [show x1 - x0 = 0 by omega, Int.zero_mul]; omega
theorem Ctl.alt (h : Ctl P n st xs ys ln) (hc : c < n) (hm : st (c + 1) = st c + m) {i : Nat} (hi : i < m) : (xs (ixc (st c) m i) = xs (ixc (st c) m (i + 1)) ∧ ys (ixc (st c) m i) ≠ ys (ixc (st c) m (i + 1))) ∨ (xs (ixc (st c) m i) ≠ xs (ixc (st c) m (i + 1)) ∧ ys (ixc (st c) m i) = ys (ixc (st c) m (i + 1))) := by
  have s1 := h.sd hc hm hi
  unfold Sd at s1
  simp only at s1
  omega
theorem Ctl.wlk (h : Ctl P n st xs ys ln) (hc : c < n) (hm : st (c + 1) = st c + m) {i : Nat} (hi : i < m) : (if 0 ≤ xs (ixc (st c) m (i + 1)) - xs (ixc (st c) m i) then xs (ixc (st c) m (i + 1)) - xs (ixc (st c) m i) else -(xs (ixc (st c) m (i + 1)) - xs (ixc (st c) m i))) + (if 0 ≤ ys (ixc (st c) m (i + 1)) - ys (ixc (st c) m i) then ys (ixc (st c) m (i + 1)) - ys (ixc (st c) m i) else -(ys (ixc (st c) m (i + 1)) - ys (ixc (st c) m i))) = (ln (ixc (st c) m i) : Int) := by
  obtain ⟨n1, n2⟩ := h.nxt hc hm hi
  have hb := h.2.2.1.bend (h.lt hc hm (i := i) (by omega)).2.2
  have hd := (bn_lv h.2.1 hb).dir
  generalize lvd P (xs (ixc (st c) m i)) (ys (ixc (st c) m i)) = d at *
  rcases step_cases hd with ⟨e, a, b⟩ | ⟨e, a, b⟩ | ⟨e, a, b⟩ | ⟨e, a, b⟩ <;> rw [a] at n1 <;> rw [b] at n2 <;> split <;> split <;> omega
theorem Ctl.bd (h : Ctl P n st xs ys ln) {j : Nat} (hj : j < st n) : (0 ≤ xs j ∧ xs j ≤ 48) ∧ (0 ≤ ys j ∧ ys j ≤ 48) ∧ ln j ≤ 48 := by
  have hb := h.2.2.1.bend hj
  have hi := bn_in h.1 hb
  obtain ⟨h48, -⟩ := (h.2.2.2 j hj).inn h.1 h.2.1 (bn_lv h.2.1 hb)
  exact ⟨by omega, by omega, by omega⟩
end PW
/-! sums along contours -/
section PS
variable (P : Int → Int → Bool)
noncomputable def cmN (c : Nat) : Nat := vS P (c + 1) - vS P c
noncomputable def pX (c i : Nat) : Int := vX P (ixc (vS P c) (cmN P c) i)
noncomputable def pY (c i : Nat) : Int := vY P (ixc (vS P c) (cmN P c) i)
noncomputable def crN (c s : Nat) : Int := sumN (fun i => pX P c i * pY P c (i + 1) - pX P c (i + 1) * pY P c i) s
noncomputable def crT (k : Nat) : Int := sumN (fun c => crN P c (cmN P c)) k
noncomputable def tuN (c s : Nat) : Int := sumN (fun i => tnV P (pX P c (i + 1)) (pY P c (i + 1))) s
noncomputable def waN (c s : Nat) : Int := sumN (fun i => (vL P (ixc (vS P c) (cmN P c) i) : Int)) s
end PS
section PT
variable {f : Nat → Int} {p : Nat}
theorem Vok.cm (h : Vok (lay f (2 * p + 1))) {c : Nat} (hc : c < vN (lay f (2 * p + 1))) : 4 ≤ cmN (lay f (2 * p + 1)) c ∧ vS (lay f (2 * p + 1)) (c + 1) = vS (lay f (2 * p + 1)) c + cmN (lay f (2 * p + 1)) c ∧ vS (lay f (2 * p + 1)) (c + 1) ≤ vE (lay f (2 * p + 1)) ∧ vE (lay f (2 * p + 1)) ≤ 312 := by
  have h4 := h.1.1.four (pk_nod f p) hc
  have hm : vS (lay f (2 * p + 1)) (c + 1) ≤ vE (lay f (2 * p + 1)) := h.1.1.mono (show c + 1 ≤ vN (lay f (2 * p + 1)) by omega) (Nat.le_refl _)
  unfold cmN
  exact ⟨by omega, by omega, hm, h.le.2⟩
theorem p_bd (h : Vok (lay f (2 * p + 1))) {c i : Nat} (hc : c < vN (lay f (2 * p + 1))) (hi : i < 2 * cmN (lay f (2 * p + 1)) c) : (0 ≤ pX (lay f (2 * p + 1)) c i ∧ pX (lay f (2 * p + 1)) c i ≤ 48) ∧ (0 ≤ pY (lay f (2 * p + 1)) c i ∧ pY (lay f (2 * p + 1)) c i ≤ 48) ∧ vL (lay f (2 * p + 1)) (ixc (vS (lay f (2 * p + 1)) c) (cmN (lay f (2 * p + 1)) c) i) ≤ 48 := by
  have hm := h.cm hc
  exact (ctl h).bd ((ctl h).lt hc hm.2.1 hi).2.2
theorem cr_1 (h : Vok (lay f (2 * p + 1))) {c i : Nat} (hc : c < vN (lay f (2 * p + 1))) (hi : i < cmN (lay f (2 * p + 1)) c) : (0 ≤ pX (lay f (2 * p + 1)) c i * pY (lay f (2 * p + 1)) c (i + 1) ∧ pX (lay f (2 * p + 1)) c i * pY (lay f (2 * p + 1)) c (i + 1) ≤ 2304) ∧ (0 ≤ pX (lay f (2 * p + 1)) c (i + 1) * pY (lay f (2 * p + 1)) c i ∧ pX (lay f (2 * p + 1)) c (i + 1) * pY (lay f (2 * p + 1)) c i ≤ 2304) := by
  have a := p_bd h hc (i := i) (by omega)
  have b := p_bd h hc (i := i + 1) (by omega)
  have q1 := mul_bd (a := pX (lay f (2 * p + 1)) c i) (b := pY (lay f (2 * p + 1)) c (i + 1)) (by omega) (by omega)
  have q2 := mul_bd (a := pX (lay f (2 * p + 1)) c (i + 1)) (b := pY (lay f (2 * p + 1)) c i) (by omega) (by omega)
  exact ⟨⟨Int.mul_nonneg a.1.1 b.2.1.1, q1.2⟩, Int.mul_nonneg b.1.1 a.2.1.1, q2.2⟩
theorem crN_b (h : Vok (lay f (2 * p + 1))) {c s : Nat} (hc : c < vN (lay f (2 * p + 1))) (hs : s ≤ cmN (lay f (2 * p + 1)) c) : -(2304 * (s : Int)) ≤ crN (lay f (2 * p + 1)) c s ∧ crN (lay f (2 * p + 1)) c s ≤ 2304 * s := sum_bd fun i hi => by
  have := cr_1 h hc (i := i) (by omega)
  show -2304 ≤ _ - _ ∧ _ - _ ≤ (2304 : Int)
  omega
theorem crT_b (h : Vok (lay f (2 * p + 1))) : ∀ k, k ≤ vN (lay f (2 * p + 1)) → -(2304 * (vS (lay f (2 * p + 1)) k : Int)) ≤ crT (lay f (2 * p + 1)) k ∧ crT (lay f (2 * p + 1)) k ≤ 2304 * vS (lay f (2 * p + 1)) k
  | 0, _ => by rw [h.1.1.1]; exact ⟨Int.le_refl 0, Int.le_refl 0⟩
  | k + 1, hk => by
    have ih := crT_b h k (by omega)
    have hm := h.cm (c := k) (by omega)
    have hb := crN_b h (c := k) (by omega) (Nat.le_refl _)
    have e : crT (lay f (2 * p + 1)) (k + 1) = crT (lay f (2 * p + 1)) k + crN (lay f (2 * p + 1)) k (cmN (lay f (2 * p + 1)) k) := rfl
    rw [e, hm.2.1]
    omega
/-- TWICE THE AREA -/
theorem crT_all (h : Vok (lay f (2 * p + 1))) : crT (lay f (2 * p + 1)) (vN (lay f (2 * p + 1))) = 2 * (lcnt f (2 * p + 1) : Int) := by
  have C := ctl h
  have e1 : crT (lay f (2 * p + 1)) (vN (lay f (2 * p + 1))) = sumN (fun c => 2 * sumN (fun i => (fun j => dsg (lay f (2 * p + 1)) (vX (lay f (2 * p + 1)) j) (vY (lay f (2 * p + 1)) j) * (vX (lay f (2 * p + 1)) j * vY (lay f (2 * p + 1)) j)) (vS (lay f (2 * p + 1)) c + i)) (vS (lay f (2 * p + 1)) (c + 1) - vS (lay f (2 * p + 1)) c)) (vN (lay f (2 * p + 1))) := sumN_congr fun c hc => C.dbl hc (h.cm hc).2.1
  rw [e1, sumN_mulc]
  exact congrArg (fun z : Int => 2 * z) ((sum_ct C.2.2.1 (fun j => dsg (lay f (2 * p + 1)) (vX (lay f (2 * p + 1)) j) (vY (lay f (2 * p + 1)) j) * (vX (lay f (2 * p + 1)) j * vY (lay f (2 * p + 1)) j)) _ (Nat.le_refl _)).trans (list_area C.1 C.2.1 h.1))
theorem tuN_all (h : Vok (lay f (2 * p + 1))) {c : Nat} (hc : c < vN (lay f (2 * p + 1))) : tuN (lay f (2 * p + 1)) c (cmN (lay f (2 * p + 1)) c) = 4 - 8 * hol (lay f (2 * p + 1)) (vX (lay f (2 * p + 1)) (vS (lay f (2 * p + 1)) c)) (vY (lay f (2 * p + 1)) (vS (lay f (2 * p + 1)) c)) := by
  have C := ctl h
  have hm := h.cm hc
  have ht := C.turned hc hm.2.1 hm.1
  rw [← ht]
  have sh := sumN_sh (fun i => tnV (lay f (2 * p + 1)) (pX (lay f (2 * p + 1)) c i) (pY (lay f (2 * p + 1)) c i)) (cmN (lay f (2 * p + 1)) c)
  have em : ixc (vS (lay f (2 * p + 1)) c) (cmN (lay f (2 * p + 1)) c) (cmN (lay f (2 * p + 1)) c) = ixc (vS (lay f (2 * p + 1)) c) (cmN (lay f (2 * p + 1)) c) 0 := ixc_per (j := 0) (by omega)
  have e0 : tnV (lay f (2 * p + 1)) (pX (lay f (2 * p + 1)) c (cmN (lay f (2 * p + 1)) c)) (pY (lay f (2 * p + 1)) c (cmN (lay f (2 * p + 1)) c)) = tnV (lay f (2 * p + 1)) (pX (lay f (2 * p + 1)) c 0) (pY (lay f (2 * p + 1)) c 0) := by
    unfold pX pY
    rw [em]
  have e1 : tuN (lay f (2 * p + 1)) c (cmN (lay f (2 * p + 1)) c) = sumN (fun i => tnV (lay f (2 * p + 1)) (pX (lay f (2 * p + 1)) c i) (pY (lay f (2 * p + 1)) c i)) (cmN (lay f (2 * p + 1)) c) := by
    show sumN (fun i => tnV (lay f (2 * p + 1)) (pX (lay f (2 * p + 1)) c (i + 1)) (pY (lay f (2 * p + 1)) c (i + 1))) _ = _
    omega
  rw [e1]
  refine sumN_congr fun i hi => ?_
  unfold pX pY
  rw [ixc_lt hi]
theorem tuN_b (c s : Nat) : -(s : Int) ≤ tuN (lay f (2 * p + 1)) c s ∧ tuN (lay f (2 * p + 1)) c s ≤ s := by
  have := sum_bd (g := fun i => tnV (lay f (2 * p + 1)) (pX (lay f (2 * p + 1)) c (i + 1)) (pY (lay f (2 * p + 1)) c (i + 1))) (B := 1) (n := s) fun i _ => by
    have := tnV_c (lay f (2 * p + 1)) (pX (lay f (2 * p + 1)) c (i + 1)) (pY (lay f (2 * p + 1)) c (i + 1))
    show -1 ≤ tnV _ _ _ ∧ tnV _ _ _ ≤ 1
    omega
  unfold tuN
  omega
theorem waN_b (h : Vok (lay f (2 * p + 1))) {c s : Nat} (hc : c < vN (lay f (2 * p + 1))) (hs : s ≤ cmN (lay f (2 * p + 1)) c) : -(48 * (s : Int)) ≤ waN (lay f (2 * p + 1)) c s ∧ waN (lay f (2 * p + 1)) c s ≤ 48 * s := sum_bd fun i hi => by
  have := (p_bd h hc (i := i) (by omega)).2.2
  show -48 ≤ ((vL (lay f (2 * p + 1)) (ixc (vS (lay f (2 * p + 1)) c) (cmN (lay f (2 * p + 1)) c) i) : Nat) : Int) ∧ _ ≤ (48 : Int)
  omega
theorem waN_all (h : Vok (lay f (2 * p + 1))) {c : Nat} (hc : c < vN (lay f (2 * p + 1))) : waN (lay f (2 * p + 1)) c (cmN (lay f (2 * p + 1)) c) = cum (vL (lay f (2 * p + 1))) (vS (lay f (2 * p + 1)) (c + 1)) - cum (vL (lay f (2 * p + 1))) (vS (lay f (2 * p + 1)) c) := by
  have hm := h.cm hc
  unfold cum
  rw [hm.2.1, sumN_cat]
  have e : waN (lay f (2 * p + 1)) c (cmN (lay f (2 * p + 1)) c) = sumN (fun i => ((vL (lay f (2 * p + 1)) (vS (lay f (2 * p + 1)) c + i) : Nat) : Int)) (cmN (lay f (2 * p + 1)) c) := sumN_congr fun i hi => by rw [ixc_lt hi]
  rw [e]
  omega
theorem cum_b (h : Vok (lay f (2 * p + 1))) {m : Nat} (hm : m ≤ vE (lay f (2 * p + 1))) : -(48 * (m : Int)) ≤ cum (vL (lay f (2 * p + 1))) m ∧ cum (vL (lay f (2 * p + 1))) m ≤ 48 * m := sum_bd fun i hi => by
  have := ((ctl h).bd (j := i) (show i < vE (lay f (2 * p + 1)) by omega)).2.2
  show -48 ≤ ((vL (lay f (2 * p + 1)) i : Nat) : Int) ∧ _ ≤ (48 : Int)
  omega
theorem vH_b (P : Int → Int → Bool) (k : Nat) : -(1 * (k : Int)) ≤ vH P k ∧ vH P k ≤ 1 * k := sum_bd fun c _ => by
  show -1 ≤ hol P (vX P (vS P c)) (vY P (vS P c)) ∧ hol P (vX P (vS P c)) (vY P (vS P c)) ≤ 1
  unfold hol
  split <;> omega
/-- LEFT TURNS -/
theorem left_all (h : Vok (lay f (2 * p + 1))) : 2 * smV f p 5 - (vE (lay f (2 * p + 1)) : Int) = 4 * ((vN (lay f (2 * p + 1)) : Int) - 2 * vH (lay f (2 * p + 1)) (vN (lay f (2 * p + 1)))) := by
  have C := ctl h
  have e1 : sumN (fun j => tnV (lay f (2 * p + 1)) (vX (lay f (2 * p + 1)) j) (vY (lay f (2 * p + 1)) j)) (vE (lay f (2 * p + 1))) = 2 * smV f p 5 - (vE (lay f (2 * p + 1)) : Int) := by
    have e : smV f p 5 = (cntB (bS f p 5) (vE (lay f (2 * p + 1))) : Int) := by unfold smV; rw [if_neg (by omega)]
    rw [e, cntB_sum]
    have e2 : sumN (fun j => tnV (lay f (2 * p + 1)) (vX (lay f (2 * p + 1)) j) (vY (lay f (2 * p + 1)) j)) (vE (lay f (2 * p + 1))) = sumN (fun j => 2 * b2i (bS f p 5 j) + -1) (vE (lay f (2 * p + 1))) := sumN_congr fun j _ => by
      have eb : bS f p 5 j = decide (four (lay f (2 * p + 1)) (vX (lay f (2 * p + 1)) j) (vY (lay f (2 * p + 1)) j) = 1) := by
        unfold bS fl
        rw [if_neg (by omega)]
      rw [eb]
      unfold tnV
      by_cases g : four (lay f (2 * p + 1)) (vX (lay f (2 * p + 1)) j) (vY (lay f (2 * p + 1)) j) = 1
      · rw [if_pos g, decide_eq_true g]; rfl
      · rw [if_neg g, decide_eq_false g]; rfl
    rw [e2, sumN_add, sumN_mulc, sumN_c]
    omega
  have e3 := sum_ct C.2.2.1 (fun j => tnV (lay f (2 * p + 1)) (vX (lay f (2 * p + 1)) j) (vY (lay f (2 * p + 1)) j)) (vN (lay f (2 * p + 1))) (Nat.le_refl _)
  have e4 : sumN (fun c => sumN (fun i => tnV (lay f (2 * p + 1)) (vX (lay f (2 * p + 1)) (vS (lay f (2 * p + 1)) c + i)) (vY (lay f (2 * p + 1)) (vS (lay f (2 * p + 1)) c + i))) (vS (lay f (2 * p + 1)) (c + 1) - vS (lay f (2 * p + 1)) c)) (vN (lay f (2 * p + 1))) = sumN (fun c => 4 + -8 * hol (lay f (2 * p + 1)) (vX (lay f (2 * p + 1)) (vS (lay f (2 * p + 1)) c)) (vY (lay f (2 * p + 1)) (vS (lay f (2 * p + 1)) c))) (vN (lay f (2 * p + 1))) := sumN_congr fun c hc => by
    have hm := h.cm hc
    have ht := C.turned hc hm.2.1 hm.1
    have ht : sumN (fun i => tnV (lay f (2 * p + 1)) (vX (lay f (2 * p + 1)) (vS (lay f (2 * p + 1)) c + i)) (vY (lay f (2 * p + 1)) (vS (lay f (2 * p + 1)) c + i))) (vS (lay f (2 * p + 1)) (c + 1) - vS (lay f (2 * p + 1)) c) = _ := ht
    rw [ht]
    omega
  rw [e4, sumN_add, sumN_mulc, sumN_c] at e3
  have e5 : sumN (fun c => hol (lay f (2 * p + 1)) (vX (lay f (2 * p + 1)) (vS (lay f (2 * p + 1)) c)) (vY (lay f (2 * p + 1)) (vS (lay f (2 * p + 1)) c))) (vN (lay f (2 * p + 1))) = vH (lay f (2 * p + 1)) (vN (lay f (2 * p + 1))) := rfl
  have e6 : vS (lay f (2 * p + 1)) (vN (lay f (2 * p + 1))) = vE (lay f (2 * p + 1)) := rfl
  rw [e5, e6, e1] at e3
  omega
/-- AS MANY OUTER CONTOURS AS COMPONENTS -/
theorem comp_all (h : Vok (lay f (2 * p + 1))) : (vN (lay f (2 * p + 1)) : Int) - vH (lay f (2 * p + 1)) (vN (lay f (2 * p + 1))) = nc f p := by
  have C := ctl h
  have e := C.comps h.1.2 fun c hc => h.1.1.four (pk_nod f p) hc
  have e1 : sumN (fun c => 1 - hol (lay f (2 * p + 1)) (vX (lay f (2 * p + 1)) (vS (lay f (2 * p + 1)) c)) (vY (lay f (2 * p + 1)) (vS (lay f (2 * p + 1)) c))) (vN (lay f (2 * p + 1))) = sumN (fun c => 1 + -1 * hol (lay f (2 * p + 1)) (vX (lay f (2 * p + 1)) (vS (lay f (2 * p + 1)) c)) (vY (lay f (2 * p + 1)) (vS (lay f (2 * p + 1)) c))) (vN (lay f (2 * p + 1))) := sumN_congr fun c _ => by omega
  rw [e1, sumN_add, sumN_mulc, sumN_c] at e
  have e5 : sumN (fun c => hol (lay f (2 * p + 1)) (vX (lay f (2 * p + 1)) (vS (lay f (2 * p + 1)) c)) (vY (lay f (2 * p + 1)) (vS (lay f (2 * p + 1)) c))) (vN (lay f (2 * p + 1))) = vH (lay f (2 * p + 1)) (vN (lay f (2 * p + 1))) := rfl
  rw [e5] at e
  show _ = (cP (Fi (cp (lay f (2 * p + 1))) ad) 2304 : Int)
  omega
end PT

/-! changes: the region, its past and future, the text, the keeping -/
theorem Inv.soft {M M2 : Mm} (h : Inv M) (f : Fx (fun t j => (t = 6 ∨ t = 10 ∨ t = 700 ∨ t = 701 ∨ t = 1105 ∨ t = 1110 ∨ t = 1115) ∧ j = 0 ∨ t = 50) M M2) (k : ∀ q, q = 6 ∨ q = 7 ∨ q = 8 ∨ q = 9 ∨ q = 18 ∨ q = 34 ∨ q = 44 → M2.1 10 0 q = M.1 10 0 q) (hT : TxI M2) : Inv M2 := by
  obtain ⟨i1, i2, i3, -, i5, i6, i7⟩ := h
  have e : ∀ t j, ¬ ((t = 6 ∨ t = 10 ∨ t = 700 ∨ t = 701 ∨ t = 1105 ∨ t = 1110 ∨ t = 1115) ∧ j = 0 ∨ t = 50) → M2.1 t j = M.1 t j := fun t j ht => (f t j ht).1
  refine ⟨i1.fx ⟨e 500 0 (by omega), e 1101 0 (by omega)⟩, i2.fx ⟨e 500 1 (by omega), e 9 0 (by omega), e 1104 0 (by omega)⟩ (k 8 (by omega)), i3.fx ⟨e 1 0 (by omega), e 200 0 (by omega), e 500 0 (by omega), e 1102 0 (by omega), e 1103 0 (by omega)⟩ ⟨k 6 (by omega), k 7 (by omega)⟩, hT, i5.fx ⟨e 402 12 (by omega), e 3 12 (by omega), e 2 12 (by omega), (f 401 12 (by omega)).2⟩, fun g => ?_, fun g => ?_⟩
  · rw [e 5 0 (by omega)] at g
    rw [e 500 0 (by omega)]
    exact (i6 g).fx (by rw [e 5 0 (by omega)]) fun t j h5 ht => f t j (by unfold TRF at ht; omega)
  · rw [k 9 (by omega)] at g
    rw [e 500 0 (by omega)]
    exact (i7 g).fx ⟨k 18 (by omega), k 34 (by omega), k 44 (by omega)⟩ fun t ht => f t 0 (by omega)
/-! what a recorded change does to the ring and to the lists -/
def RcC (g : Nat → Int) (M1 : Mm) (s u : Nat) : Prop := M1.1 1 0 1 = ((s + 1) % 9 : Nat) ∧ M1.1 1 0 2 = (if u = 8 then 8 else u + 1 : Nat) ∧ M1.1 1 0 3 = 0 ∧ (∀ y, y < 12 → M1.1 200 0 ((s + 1) % 9 * 12 + y) = M1.1 500 0 y) ∧ ∀ q, q < 108 → q / 12 ≠ (s + 1) % 9 → M1.1 200 0 q = g q
def RcM (p r : Nat → Int) (M2 : Mm) (u : Nat) : Prop := M2.1 10 0 6 = (if u = 8 then 8 else u + 1 : Nat) ∧ M2.1 10 0 7 = 0 ∧ M2.1 10 0 9 = 0 ∧ (u ≠ 8 → (∀ y, y < 12 → M2.1 1102 0 (12 * u + y) = r y) ∧ ∀ q, q < 12 * u → M2.1 1102 0 q = p q) ∧ (u = 8 → (∀ y, y < 12 → M2.1 1102 0 (84 + y) = r y) ∧ ∀ q, q < 84 → M2.1 1102 0 q = p (q + 12))
theorem c934 {s u : Nat} {M : Mm} {Q : Mm → Prop} (hs : M.1 1 0 1 = s) (h9 : s < 9) (hu : M.1 1 0 2 = u) (h8 : u ≤ 8) (hQ : ∀ M', Fx (fun t j => (t = 1 ∨ t = 5 ∨ t = 200) ∧ j = 0) M M' → RcC (M.1 200 0) M' s u → M'.1 5 0 10 = 0 → Q M') : E_934 M Q := by
  refine s_934_0 (c101 hs h9 hu h8 fun M1 f1 a1 a2 a3 a4 a5 => s_501_0 fun M2 e2 => ?_)
  have e1 : M2.1 1 0 = M1.1 1 0 := by rw [e2, setI_ne (by omega)]
  have e3 : M2.1 200 0 = M1.1 200 0 := by rw [e2, setI_ne (by omega)]
  have f2 : Fx (fun t j => t = 5 ∧ j = 0) M1 M2 := by rw [e2]; exact Fx.setI ⟨rfl, rfl⟩
  refine hQ M2 ((f1.up fun t j g => by omega).tr (f2.up fun t j g => by omega)) ⟨by rw [e1]; exact a1, by rw [e1]; exact a2, by rw [e1]; exact a3, fun y hy => ?_, fun q h1 h2 => by rw [e3]; exact a5 q h1 h2⟩ (by rw [e2, setI_at, ups_at])
  rw [e3, a4 y hy, (f2 500 0 (by omega)).1, (f1 500 0 (by omega)).1]
theorem c1008r {u : Nat} {M : Mm} {Q : Mm → Prop} (hu : M.1 10 0 6 = u) (h8 : u ≤ 8) (hQ : ∀ M', Fx (fun t j => (t = 10 ∨ t = 1102 ∨ t = 1101) ∧ j = 0) M M' → (∀ y, y < 12 → M'.1 1101 0 y = M.1 1105 0 y) → RcM (M.1 1102 0) (M.1 1101 0) M' u → (∀ k, k ≠ 6 → k ≠ 7 → k ≠ 9 → M'.1 10 0 k = M.1 10 0 k) → Q M') : E_1008 M Q := c1008 hu h8 fun M1 f1 a1 a2 a3 a4 a5 a6 a7 => hQ M1 f1 a1 ⟨a2, a3, a4, a6, a7⟩ a5
def TCc (t j : Nat) : Prop := (t = 1 ∨ t = 5 ∨ t = 6 ∨ t = 200 ∨ t = 500 ∨ t = 501 ∨ t = 700 ∨ t = 701) ∧ j = 0 ∨ t = 50
def TMc (t j : Nat) : Prop := (t = 10 ∨ t = 1101 ∨ t = 1102 ∨ t = 1103 ∨ t = 1105 ∨ t = 1110 ∨ t = 1115) ∧ j = 0
/-- after a change: the rest of what holds, given the region's, the history's and the text's -/
theorem Inv.chg {M M1 M2 : Mm} (h : Inv M) (c : Fx TCc M M1) (z : M1.1 5 0 10 = 0) (m : Fx TMc M1 M2) (k8 : M2.1 10 0 8 = M.1 10 0 8) (k9 : M2.1 10 0 9 = 0) (hT : TxI M2) (hR : R12 (M1.1 500 0)) (he : ∀ y, y < 12 → M2.1 1101 0 y = M1.1 500 0 y) (hH : HiI M2) : Inv M2 := by
  obtain ⟨-, i2, -, -, i5, -, -⟩ := h
  have e1 : ∀ t j, ¬ TMc t j → M2.1 t j = M1.1 t j := fun t j ht => (m t j ht).1
  have e : ∀ t j, ¬ TCc t j → ¬ TMc t j → M2.1 t j = M.1 t j := fun t j h1 h2 => (e1 t j h2).trans (c t j h1).1
  refine ⟨⟨by rw [e1 500 0 (by unfold TMc; omega)]; exact hR, fun y hy => by rw [e1 500 0 (by unfold TMc; omega)]; exact he y hy⟩, i2.fx ⟨e 500 1 (by unfold TCc; omega) (by unfold TMc; omega), e 9 0 (by unfold TCc; omega) (by unfold TMc; omega), e 1104 0 (by unfold TCc; omega) (by unfold TMc; omega)⟩ k8, hH, hT, i5.fx ⟨e 402 12 (by unfold TCc; omega) (by unfold TMc; omega), e 3 12 (by unfold TCc; omega) (by unfold TMc; omega), e 2 12 (by unfold TCc; omega) (by unfold TMc; omega), ((m 401 12 (by unfold TMc; omega)).2).trans (c 401 12 (by unfold TCc; omega)).2⟩, fun g => ?_, fun g => absurd k9 g⟩
  rw [e1 5 0 (by unfold TMc; omega)] at g
  exact absurd z g
theorem Inv.recd {M M1 M2 : Mm} {s u : Nat} (h : Inv M) (hs : M.1 1 0 1 = s) (hu : M.1 1 0 2 = u) (c : Fx TCc M M1) (rc : RcC (M.1 200 0) M1 s u) (z : M1.1 5 0 10 = 0) (m : Fx TMc M1 M2) (rm : RcM (M.1 1102 0) (M.1 1101 0) M2 u) (k8 : M2.1 10 0 8 = M.1 10 0 8) (hT : TxI M2) (hR : R12 (M1.1 500 0)) (he : ∀ y, y < 12 → M2.1 1101 0 y = M1.1 500 0 y) : Inv M2 := by
  obtain ⟨c1, c2, c3, c4, c5⟩ := rc
  obtain ⟨m1, m2, m3, m4, m5⟩ := rm
  refine h.chg c z m k8 m3 hT hR he ?_
  obtain ⟨⟨-, hr2⟩, -, ⟨s', u', r, ⟨a1, a2, a3, a4, a5, a6, a7⟩, b1, b2, b3, b4⟩, -⟩ := h
  have es : s' = s := by omega
  have eu : u' = u := by omega
  subst es
  subst eu
  have d1 : M2.1 1 0 = M1.1 1 0 := (m 1 0 (by unfold TMc; omega)).1
  have d2 : M2.1 200 0 = M1.1 200 0 := (m 200 0 (by unfold TMc; omega)).1
  have d3 : M2.1 500 0 = M1.1 500 0 := (m 500 0 (by unfold TMc; omega)).1
  have old : ∀ i y, i < 9 → i ≠ (s' + 1) % 9 → y < 12 → M1.1 200 0 (i * 12 + y) = M.1 200 0 (i * 12 + y) := fun i y hi hn hy => c5 _ (by omega) (by omega)
  have cur : ∀ y, y < 12 → M.1 1101 0 y = M.1 200 0 (s' * 12 + y) := fun y hy => by rw [hr2 y hy, b2 y hy]
  refine ⟨(s' + 1) % 9, (if u' = 8 then 8 else u' + 1), 0, ⟨by rw [d1]; exact c1, by omega, by rw [d1]; exact c2, by rw [d1, c3]; rfl, m1, by rw [m2]; rfl, by split <;> omega⟩, fun q hq => ?_, fun y hy => by rw [d2, d3]; exact c4 y hy, ?_, fun j y hj => absurd hj (Nat.not_lt_zero j)⟩
  · rw [d2]
    by_cases g : q / 12 = (s' + 1) % 9
    · have := c4 (q % 12) (by omega)
      rw [show (s' + 1) % 9 * 12 + q % 12 = q by omega] at this
      rw [this]
      exact hR _ (by omega)
    · rw [c5 q hq g]; exact b1 q hq
  · intro j y hj hy
    rw [d2]
    by_cases g : u' = 8
    · rw [if_pos g] at hj ⊢
      obtain ⟨n1, n2⟩ := m5 g
      by_cases gj : j = 7
      · subst gj
        rw [show 12 * 7 + y = 84 + y by omega, n1 y hy, cur y hy, show ((s' + 1) % 9 + 9 - (8 - 7)) % 9 = s' by omega, old s' y (by omega) (by omega) hy]
      · rw [n2 (12 * j + y) (by omega), show 12 * j + y + 12 = 12 * (j + 1) + y by omega, b3 (j + 1) y (by omega) hy, show ((s' + 1) % 9 + 9 - (8 - j)) % 9 = (s' + 9 - (u' - (j + 1))) % 9 by omega, old _ y (by omega) (by omega) hy]
    · rw [if_neg g] at hj ⊢
      obtain ⟨n1, n2⟩ := m4 g
      by_cases gj : j = u'
      · subst gj
        rw [n1 y hy, cur y hy, show ((s' + 1) % 9 + 9 - (j + 1 - j)) % 9 = s' by omega, old s' y (by omega) (by omega) hy]
      · rw [n2 (12 * j + y) (by omega), b3 j y (by omega) hy, show ((s' + 1) % 9 + 9 - (u' + 1 - j)) % 9 = (s' + 9 - (u' - j)) % 9 by omega, old _ y (by omega) (by omega) hy]
theorem ch_cg {o x y w h : Int} {f g : Nat → Int} (e : ∀ q, q < 12 → f q = g q) : ∀ q, q < 12 → chV o x y w h f q = chV o x y w h g q := fun q hq => by
  unfold chV
  rw [e q hq]
/-- the text's part, where no text is touched -/
theorem TxI.cm {M M1 M2 : Mm} (h : TxI M) (c : Fx TCc M M1) (m : Fx TMc M1 M2) (e6 : M1.1 6 0 = M.1 6 0) (e7 : M1.1 700 0 = M.1 700 0) (ex : M2.1 1110 0 = M1.1 1110 0) (k : M2.1 10 0 11 = M1.1 10 0 11 ∧ M2.1 10 0 12 = M1.1 10 0 12) : TxI M2 := h.fx ⟨by rw [(m 6 0 (by unfold TMc; omega)).1, e6], by rw [(m 700 0 (by unfold TMc; omega)).1, e7], by rw [ex, (c 1110 0 (by unfold TCc; omega)).1]⟩ ⟨by rw [k.1, (c 10 0 (by unfold TCc; omega)).1], by rw [k.2, (c 10 0 (by unfold TCc; omega)).1]⟩
/-- the reference records a change that the class has recorded -/
theorem rend {s u : Nat} {M M2 M3 : Mm} {Q : Mm → Prop} (h : Inv M) (hs : M.1 1 0 1 = s) (hu : M.1 1 0 2 = u) (h8 : u ≤ 8) (c : Fx TCc M M2) (rc : RcC (M.1 200 0) M2 s u) (z : M2.1 5 0 10 = 0) (hR : R12 (M2.1 500 0)) (m : Fx (fun t j => (t = 10 ∨ t = 1105 ∨ t = 1115) ∧ j = 0) M2 M3) (k : ∀ q, q = 6 ∨ q = 8 → M3.1 10 0 q = M2.1 10 0 q) (hT : TxI M3) (g : ∀ y, y < 12 → M3.1 1105 0 y = M2.1 500 0 y) (hQ : ∀ M4, Fx TMc M3 M4 → M4.1 10 0 0 = M3.1 10 0 0 → R12 (M4.1 1101 0) → (∀ y, y < 12 → M4.1 1101 0 y = M2.1 500 0 y) → Inv M4 → Q M4) : E_1008 M3 Q := by
  obtain ⟨s', u', r, ⟨-, -, a3, -, a5, -⟩, -⟩ := h.2.2.1
  have c10 : M2.1 10 0 = M.1 10 0 := (c 10 0 (by unfold TCc; omega)).1
  refine c1008r (u := u) (by rw [k 6 (by omega), c10]; omega) h8 fun M4 f4 g4 rm k4 => ?_
  rw [(m 1102 0 (by omega)).1, (m 1101 0 (by omega)).1, (c 1102 0 (by unfold TCc; omega)).1, (c 1101 0 (by unfold TCc; omega)).1] at rm
  have f4' : Fx TMc M3 M4 := f4.up fun t j g => by unfold TMc; omega
  have he : ∀ y, y < 12 → M4.1 1101 0 y = M2.1 500 0 y := fun y hy => by rw [g4 y hy, g y hy]
  refine hQ M4 f4' (k4 0 (by omega) (by omega) (by omega)) (hR.cg he) he (h.recd hs hu c rc z ((m.up fun t j g => by unfold TMc; omega).tr f4') rm ?_ ?_ hR he)
  · rw [k4 8 (by omega) (by omega) (by omega), k 8 (by omega), c10]
  · exact hT.fx ⟨(f4 6 0 (by omega)).1, (f4 700 0 (by omega)).1, (f4 1110 0 (by omega)).1⟩ ⟨k4 11 (by omega) (by omega) (by omega), k4 12 (by omega) (by omega) (by omega)⟩

/-! what holds between calls -/
/-- the number of phases -/
noncomputable def nP (f : Nat → Int) : Nat := @dite Nat (∃ n, IsN f n) (Classical.propDecidable _) (fun h => Classical.choose h) (fun _ => 0)
theorem nP_eq {f : Nat → Int} {n : Nat} (h : IsN f n) : n = nP f := by
  have hex : ∃ n, IsN f n := ⟨n, h⟩
  unfold nP
  rw [dif_pos hex]
  exact h.un (Classical.choose_spec hex)
def RgI (M : Mm) : Prop := R12 (M.1 500 0) ∧ ∀ y, y < 12 → M.1 1101 0 y = M.1 500 0 y
def SvI (M : Mm) : Prop := R12 (M.1 500 1) ∧ (M.1 9 0 6 = 0 ∨ M.1 9 0 6 = 1) ∧ M.1 10 0 8 = M.1 9 0 6 ∧ (M.1 9 0 6 = 1 → ∀ y, y < 12 → M.1 1104 0 y = M.1 500 1 y)
def HiI (M : Mm) : Prop := ∃ s u r : Nat, (M.1 1 0 1 = s ∧ s < 9 ∧ M.1 1 0 2 = u ∧ M.1 1 0 3 = r ∧ M.1 10 0 6 = u ∧ M.1 10 0 7 = r ∧ u + r ≤ 8) ∧ (∀ q, q < 108 → 0 ≤ M.1 200 0 q ∧ M.1 200 0 q < 4096) ∧ (∀ y, y < 12 → M.1 200 0 (s * 12 + y) = M.1 500 0 y) ∧ (∀ j y, j < u → y < 12 → M.1 1102 0 (12 * j + y) = M.1 200 0 ((s + 9 - (u - j)) % 9 * 12 + y)) ∧ ∀ j y, j < r → y < 12 → M.1 1103 0 (12 * j + y) = M.1 200 0 ((s + (r - j)) % 9 * 12 + y)
def TxI (M : Mm) : Prop := ∃ l : Nat, M.1 6 0 3 = l ∧ l ≤ 60 ∧ M.1 10 0 11 = l ∧ (∀ i, i < l → M.1 1110 0 i = M.1 700 0 i) ∧ M.1 10 0 12 = M.1 6 0 4
theorem RgI.fx {M M' : Mm} (h : RgI M) (e : M'.1 500 0 = M.1 500 0 ∧ M'.1 1101 0 = M.1 1101 0) : RgI M' := by
  unfold RgI
  rw [e.1, e.2]
  exact h
theorem SvI.fx {M M' : Mm} (h : SvI M) (e : M'.1 500 1 = M.1 500 1 ∧ M'.1 9 0 = M.1 9 0 ∧ M'.1 1104 0 = M.1 1104 0) (e8 : M'.1 10 0 8 = M.1 10 0 8) : SvI M' := by
  unfold SvI
  rw [e.1, e.2.1, e.2.2, e8]
  exact h
theorem HiI.fx {M M' : Mm} (h : HiI M) (e : M'.1 1 0 = M.1 1 0 ∧ M'.1 200 0 = M.1 200 0 ∧ M'.1 500 0 = M.1 500 0 ∧ M'.1 1102 0 = M.1 1102 0 ∧ M'.1 1103 0 = M.1 1103 0) (e8 : M'.1 10 0 6 = M.1 10 0 6 ∧ M'.1 10 0 7 = M.1 10 0 7) : HiI M' := by
  unfold HiI
  rw [e.1, e.2.1, e.2.2.1, e.2.2.2.1, e.2.2.2.2, e8.1, e8.2]
  exact h
theorem TxI.fx {M M' : Mm} (h : TxI M) (e : M'.1 6 0 = M.1 6 0 ∧ M'.1 700 0 = M.1 700 0 ∧ M'.1 1110 0 = M.1 1110 0) (e8 : M'.1 10 0 11 = M.1 10 0 11 ∧ M'.1 10 0 12 = M.1 10 0 12) : TxI M' := by
  unfold TxI
  rw [e.1, e.2.1, e.2.2, e8.1, e8.2]
  exact h
/-! what a query leaves: the class's side -/
def TCX (t j : Nat) : Prop := t = 50 ∨ ((t = 500 ∨ t = 501) ∧ j = 2) ∨ t = 900 ∨ t = 901
def TCQ (t j : Nat) : Prop := TRF t j ∨ TCX t j
def CQ (M M1 : Mm) : Prop := Fx TCQ M M1 ∧ Non M1 ∧ (M1.1 5 0 10 ≠ 0 → FrC M1 (M.1 500 0) (nP (M.1 500 0)))
theorem FrC.cx {M M' : Mm} {f : Nat → Int} {N : Nat} (h : FrC M f N) (g : Fx TCX M M') : FrC M' f N := h.fx (by rw [(g 5 0 (by unfold TCX; omega)).1]) fun t j h5 ht => g t j (by unfold TRF at ht; unfold TCX; omega)
theorem CQ.up {M M1 M2 : Mm} (c : CQ M M1) (g : Fx TCX M1 M2) : CQ M M2 := by
  obtain ⟨c1, c2, c3⟩ := c
  refine ⟨c1.tr (g.up fun t j h => Or.inr h), c2.fx ⟨(g 402 12 (by unfold TCX; omega)).1, (g 3 12 (by unfold TCX; omega)).1, (g 2 12 (by unfold TCX; omega)).1, (g 401 12 (by unfold TCX; omega)).2⟩, fun h => ?_⟩
  rw [(g 5 0 (by unfold TCX; omega)).1] at h
  exact (c3 h).cx g
/-! the reference's side -/

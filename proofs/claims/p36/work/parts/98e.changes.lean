/-! changes: the region, its past and future, the text, the keeping -/
/-! what a recorded change does to the ring and to the lists -/
def RcC (g : Nat → Int) (M1 : Mm) (s u : Nat) : Prop := M1.1 1 0 1 = ((s + 1) % 9 : Nat) ∧ M1.1 1 0 2 = (if u = 8 then 8 else u + 1 : Nat) ∧ M1.1 1 0 3 = 0 ∧ (∀ y, y < 12 → M1.1 200 0 ((s + 1) % 9 * 12 + y) = M1.1 500 0 y) ∧ ∀ q, q < 108 → q / 12 ≠ (s + 1) % 9 → M1.1 200 0 q = g q
theorem c934 {s u : Nat} {M : Mm} {Q : Mm → Prop} (hs : M.1 1 0 1 = s) (h9 : s < 9) (hu : M.1 1 0 2 = u) (h8 : u ≤ 8) (hQ : ∀ M', Fx (fun t j => (t = 1 ∨ t = 5 ∨ t = 200) ∧ j = 0) M M' → RcC (M.1 200 0) M' s u → M'.1 5 0 10 = 0 → Q M') : E_934 M Q := by
  refine s_934_0 (c101 hs h9 hu h8 fun M1 f1 a1 a2 a3 a4 a5 => s_501_0 fun M2 e2 => ?_)
  have e1 : M2.1 1 0 = M1.1 1 0 := by rw [e2, setI_ne (by omega)]
  have e3 : M2.1 200 0 = M1.1 200 0 := by rw [e2, setI_ne (by omega)]
  have f2 : Fx (fun t j => t = 5 ∧ j = 0) M1 M2 := by rw [e2]; exact Fx.setI ⟨rfl, rfl⟩
  refine hQ M2 ((f1.up fun t j g => by omega).tr (f2.up fun t j g => by omega)) ⟨by rw [e1]; exact a1, by rw [e1]; exact a2, by rw [e1]; exact a3, fun y hy => ?_, fun q h1 h2 => by rw [e3]; exact a5 q h1 h2⟩ (by rw [e2, setI_at, ups_at])
  rw [e3, a4 y hy, (f2 500 0 (by omega)).1, (f1 500 0 (by omega)).1]
def TCc (t j : Nat) : Prop := (t = 1 ∨ t = 5 ∨ t = 6 ∨ t = 200 ∨ t = 500 ∨ t = 501 ∨ t = 700 ∨ t = 701) ∧ j = 0 ∨ t = 50
def TMc (t j : Nat) : Prop := (t = 10 ∨ t = 1101 ∨ t = 1102 ∨ t = 1103 ∨ t = 1105 ∨ t = 1110 ∨ t = 1115) ∧ j = 0
/-- the text's part, where no text is touched -/
theorem TxI.cm {M M1 M2 : Mm} (h : TxI M) (c : Fx TCc M M1) (m : Fx TMc M1 M2) (e6 : M1.1 6 0 = M.1 6 0) (e7 : M1.1 700 0 = M.1 700 0) (ex : M2.1 1110 0 = M1.1 1110 0) (k : M2.1 10 0 11 = M1.1 10 0 11 ∧ M2.1 10 0 12 = M1.1 10 0 12) : TxI M2 := h.fx ⟨by rw [(m 6 0 (by unfold TMc; omega)).1, e6], by rw [(m 700 0 (by unfold TMc; omega)).1, e7], by rw [ex, (c 1110 0 (by unfold TCc; omega)).1]⟩ ⟨by rw [k.1, (c 10 0 (by unfold TCc; omega)).1], by rw [k.2, (c 10 0 (by unfold TCc; omega)).1]⟩

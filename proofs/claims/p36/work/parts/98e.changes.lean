/-! changes: the region, its past and future, the text, the keeping -/
/-! what a recorded change does to the ring and to the lists -/
def RcC (g : Nat → Int) (M1 : Mm) (s u : Nat) : Prop := M1.1 1 0 1 = ((s + 1) % 9 : Nat) ∧ M1.1 1 0 2 = (if u = 8 then 8 else u + 1 : Nat) ∧ M1.1 1 0 3 = 0 ∧ (∀ y, y < 12 → M1.1 200 0 ((s + 1) % 9 * 12 + y) = M1.1 500 0 y) ∧ ∀ q, q < 108 → q / 12 ≠ (s + 1) % 9 → M1.1 200 0 q = g q
theorem c934 {s u : Nat} {M : Mm} {Q : Mm → Prop} (hs : M.1 1 0 1 = s) (h9 : s < 9) (hu : M.1 1 0 2 = u) (h8 : u ≤ 8) (hQ : ∀ M', Fx (fun t j => (t = 1 ∨ t = 5 ∨ t = 200) ∧ j = 0) M M' → RcC (M.1 200 0) M' s u → M'.1 5 0 10 = 0 → Q M') : E_934 M Q := by
  refine s_934_0 (c101 hs h9 hu h8 fun M1 f1 a1 a2 a3 a4 a5 => s_501_0 fun M2 e2 => ?_)
  have e1 : M2.1 1 0 = M1.1 1 0 := by rw [e2, setI_ne (by omega)]
  have e3 : M2.1 200 0 = M1.1 200 0 := by rw [e2, setI_ne (by omega)]
  have f2 : Fx (fun t j => t = 5 ∧ j = 0) M1 M2 := by rw [e2]; exact Fx.setI ⟨rfl, rfl⟩
  refine hQ M2 ((f1.up fun t j g => by omega).tr (f2.up fun t j g => by omega)) ⟨by rw [e1]; exact a1, by rw [e1]; exact a2, by rw [e1]; exact a3, fun y hy => ?_, fun q h1 h2 => by rw [e3]; exact a5 q h1 h2⟩ (by rw [e2, setI_at, ups_at])
  rw [e3, a4 y hy, (f2 500 0 (by omega)).1, (f1 500 0 (by omega)).1]

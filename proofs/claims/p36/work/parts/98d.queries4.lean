/-! queries: components, events, branches, robots, counts -/
section Kinds4
variable {M : Mm} {K : Mm → Prop}
theorem c402 {i : Nat} {M : Mm} {Q : Int → Mm → Prop} (hR : R12 (M.1 500 i)) (hQ : Q (sizeV (M.1 500 i)) M) : E_402 i M Q := Ev.mono (e402 hR) fun v M' g => ⟨sizeV (M.1 500 i), g.2, by rw [g.1]; exact hQ⟩
end Kinds4

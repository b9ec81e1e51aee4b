/-! the reference's tree -/
/-- where there is a child, the first one -/
theorem fch_s {cnt : Nat → Nat} {pr : Nat → Nat → Int} {k b : Nat} (h : 0 < kdn cnt pr k b) : fch cnt pr k b < cnt (k + 1) ∧ pr (k + 1) (fch cnt pr k b) = b ∧ ∀ c, c < fch cnt pr k b → pr (k + 1) c ≠ b := by
  obtain ⟨c0, hc0, hc1⟩ := cntB_pos (b := isK pr k b) (n := cnt (k + 1)) h
  rcases fsE_s (isK pr k b) (cnt (k + 1)) with ⟨z1, z2⟩ | ⟨e, z1, z2, z3, z4⟩
  · rw [z2 c0 hc0] at hc1; cases hc1
  · have hfe : fch cnt pr k b = e := by unfold fch; rw [z2]; exact Int.toNat_natCast e
    rw [hfe]
    exact ⟨z1, of_decide_eq_true z3, fun c hc => of_decide_eq_false (z4 c hc)⟩

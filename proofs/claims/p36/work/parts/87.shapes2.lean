/-! symmetries: the reference; both count the same -/
/-! a map of a finite set into itself, one to one, reaches all -/
/-! the least of some numbers, 99 where there is none -/
def Mi (p : Nat → Bool) (v : Nat → Int) (n : Nat) (m : Int) : Prop := (∀ j, j < n → p j = true → m ≤ v j) ∧ (m = 99 ∨ ∃ j, j < n ∧ p j = true ∧ m = v j)
theorem Mi.z {p : Nat → Bool} {v : Nat → Int} : Mi p v 0 99 := ⟨fun j h => absurd h (Nat.not_lt_zero j), Or.inl rfl⟩
theorem Mi.n {p : Nat → Bool} {v : Nat → Int} {n : Nat} {m : Int} (h : Mi p v n m) (hp : p n = false) : Mi p v (n + 1) m := by
  refine ⟨fun j hj hpj => ?_, ?_⟩
  · by_cases q : j = n
    · rw [q, hp] at hpj; cases hpj
    · exact h.1 j (by omega) hpj
  · rcases h.2 with g | ⟨j, h1, h2⟩
    · exact Or.inl g
    · exact Or.inr ⟨j, by omega, h2⟩
theorem Mi.bd {p : Nat → Bool} {v : Nat → Int} {n : Nat} {m : Int} (h : Mi p v n m) (hv : ∀ j, j < n → p j = true → 0 ≤ v j ∧ v j < 12) : 0 ≤ m ∧ m ≤ 99 := by
  rcases h.2 with g | ⟨j, h1, h2, h3⟩
  · omega
  · have := hv j h1 h2
    omega

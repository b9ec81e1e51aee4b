/-! events -/
theorem phV_out {n p : Int} (h : n ≤ p) : phV n p = 12 := by
  unfold phV
  rw [if_neg (by omega)]
abbrev PL (f : Nat → Int) (k : Nat) : Int → Int → Bool := lay f (2 * k + 1)
theorem IsN.emp {f : Nat → Int} {N : Nat} (h : IsN f N) : Vok (PL f N) ∧ vE (PL f N) = 0 ∧ vN (PL f N) = 0 := v_emp (lay_g f _) (lcnt_0.mp h.2)
/-- what the class says of phase k, the first that is empty included -/
theorem FrC.v {f : Nat → Int} {N k : Nat} {M : Mm} (hF : FrC M f N) (hNo : Non M) (hk : k ≤ N) : ∃ o, phV (M.1 5 0 11) (k : Int) = o ∧ M.1 2 o 13 = vE (PL f k) ∧ M.1 3 o 10 = nc f k ∧ M.1 2 o 12 = vH (PL f k) (vN (PL f k)) := by
  obtain ⟨hN, hT, hk2, -⟩ := hF
  have h12 := hN.le
  rw [hT.1.1]
  by_cases q : k < N
  · obtain ⟨-, -, -, -, a, b, -⟩ := (hk2 k q).2
    exact ⟨k, phV_in (by omega) (by omega), b, (hT.2 k q).1, a⟩
  · have e : k = N := by omega
    obtain ⟨-, v2, v3⟩ := hN.emp
    refine ⟨12, phV_out (by omega), ?_, ?_, ?_⟩
    · rw [hNo.2.2 13 (by omega) (by omega), e, v2]; rfl
    · rw [hNo.2.1, e, hN.nc0 (Nat.le_refl N)]; rfl
    · rw [hNo.2.2 12 (by omega) (by omega), e, v3]; rfl
/-! the reference's -/

/-! edges -/
def eD (P : Int → Int → Bool) (xs ys : Nat → Int) (i : Nat) : Int := lvd P (xs i) (ys i)
def eL (P : Int → Int → Bool) (xs ys : Nat → Int) (i : Nat) : Int := (linS (eD P xs ys i) (xs i) (ys i) + 1) / 4
def eLo (P : Int → Int → Bool) (xs ys : Nat → Int) (ln : Nat → Nat) (i : Nat) : Int := (loS (eD P xs ys i) (xs i) (ys i) (ln i) + 1) / 4
def eHi (P : Int → Int → Bool) (xs ys : Nat → Int) (ln : Nat → Nat) (i : Nat) : Int := (hiS (eD P xs ys i) (xs i) (ys i) (ln i) + 1) / 4
/-- the measures of a side -/
theorem side_rng {P : Int → Int → Bool} (hg : InG P) (hD : NoD P) {x y : Int} {n : Nat} (hb : bn P x y = true) (hN : RunN P x y (lvd P x y) n) : (0 ≤ linS (lvd P x y) x y ∧ linS (lvd P x y) x y ≤ 48) ∧ 0 ≤ loS (lvd P x y) x y n ∧ hiS (lvd P x y) x y n ≤ 48 ∧ 0 < n ∧ n ≤ 48 ∧ hiS (lvd P x y) x y n - loS (lvd P x y) x y n = n := by
  have hi := bn_in hg hb
  have he := bn_lv hD hb
  obtain ⟨h48, hin⟩ := hN.inn hg hD he
  have h1 := hin n (Nat.le_refl n)
  have h0 := hN.1
  refine ⟨?_, ?_, ?_, h0, h48, hi_lo _ _ _ _⟩
  · unfold linS
    split <;> omega
  · unfold loS risS algS levV
    rcases step_cases he.dir with ⟨e, a, b⟩ | ⟨e, a, b⟩ | ⟨e, a, b⟩ | ⟨e, a, b⟩ <;> rw [a, b] at h1 <;> rw [e] <;> simp <;> omega
  · unfold hiS risS algS levV
    rcases step_cases he.dir with ⟨e, a, b⟩ | ⟨e, a, b⟩ | ⟨e, a, b⟩ | ⟨e, a, b⟩ <;> rw [a, b] at h1 <;> rw [e] <;> simp <;> omega

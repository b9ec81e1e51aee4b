/-! the reference's sums of a phase -/
theorem b2i_c (b : Bool) : b2i b = 0 ∨ b2i b = 1 := by cases b; exact Or.inl rfl; exact Or.inr rfl
theorem hol_c (P : Int → Int → Bool) (x y : Int) : hol P x y = 0 ∨ hol P x y = 1 := by unfold hol; split; exact Or.inl rfl; exact Or.inr rfl
noncomputable def vH (P : Int → Int → Bool) (n : Nat) : Int := sumN (fun c => hol P (vX P (vS P c)) (vY P (vS P c))) n
/-- what is counted -/
noncomputable def bS (f : Nat → Int) (p : Nat) (w : Int) (i : Nat) : Bool := if w = 7 then decide (1 < cntB (oQ (lay f 1) (lay f (2 * p + 1)) (2 * p + 1) i) (vE (lay f 1))) else fl (lay f (2 * p + 1)) (vX (lay f (2 * p + 1)) i) (vY (lay f (2 * p + 1)) i)
noncomputable def smV (f : Nat → Int) (p : Nat) (w : Int) : Int := if w = 6 then cum (vL (lay f (2 * p + 1))) (vE (lay f (2 * p + 1))) else (cntB (bS f p w) (vE (lay f (2 * p + 1))) : Int)

/-! queries: contours, vertices, origins -/
section Kinds3
variable {M : Mm} {K : Mm → Prop}
/-- there is such a contour, such a side -/
def OkC (f : Nat → Int) (x y : Int) (p c : Nat) : Prop := x = p ∧ y = c ∧ p < nP f ∧ c < vN (PL f p)
def OkS (f : Nat → Int) (x y z : Int) (p c s : Nat) : Prop := x = p ∧ y = c ∧ z = s ∧ p < nP f ∧ c < vN (PL f p) ∧ vS (PL f p) c + s < vS (PL f p) (c + 1)
theorem hc_p {f : Nat → Int} {M : Mm} (hF : FrC M f (nP f)) (x y : Int) : (hcV (M.1 5 0 11) x (M.1 2 (phV (M.1 5 0 11) x) 11) y = 1 ∧ ∃ p c, OkC f x y p c) ∨ (hcV (M.1 5 0 11) x (M.1 2 (phV (M.1 5 0 11) x) 11) y = 0 ∧ ¬ ∃ p c, OkC f x y p c) := by
  obtain ⟨hI, hT, hk, -⟩ := hF
  have h12 := hI.le
  rw [hT.1.1]
  unfold hcV
  rcases hp_p (nP f : Int) x with ⟨h1, h2, h3⟩ | ⟨h1, h2⟩
  · rw [if_neg (by omega)]
    obtain ⟨p, rfl⟩ : ∃ p : Nat, x = p := ⟨x.toNat, by omega⟩
    rw [phV_in (by omega) (by omega)]
    have e : M.1 2 p 11 = vN (PL f p) := (hk p (by omega)).2.2.2.2.1
    rw [e]
    by_cases q : 0 ≤ y ∧ y < (vN (PL f p) : Int)
    · rw [if_pos q]
      exact Or.inl ⟨rfl, p, y.toNat, rfl, by omega, by omega, by omega⟩
    · rw [if_neg q]
      refine Or.inr ⟨rfl, fun ⟨p', c, g1, g2, g3, g4⟩ => q ?_⟩
      have : p' = p := by omega
      subst this
      omega
  · rw [if_pos h1]
    exact Or.inr ⟨rfl, fun ⟨p', c, g1, g2, g3, g4⟩ => h2 (by omega)⟩
theorem hs_p {f : Nat → Int} {M : Mm} (hF : FrC M f (nP f)) (x y z : Int) : (hsV (hcV (M.1 5 0 11) x (M.1 2 (phV (M.1 5 0 11) x) 11) y) z (sofV (M.1 2 (phV (M.1 5 0 11) x) 11) (M.1 301 (phV (M.1 5 0 11) x)) y) = 1 ∧ ∃ p c s, OkS f x y z p c s) ∨ (hsV (hcV (M.1 5 0 11) x (M.1 2 (phV (M.1 5 0 11) x) 11) y) z (sofV (M.1 2 (phV (M.1 5 0 11) x) 11) (M.1 301 (phV (M.1 5 0 11) x)) y) = 0 ∧ ¬ ∃ p c s, OkS f x y z p c s) := by
  unfold hsV
  rcases hc_p hF x y with ⟨h1, p, c, h2, h3, h4, h5⟩ | ⟨h1, h2⟩
  · rw [if_neg (by omega)]
    obtain ⟨hI, hT, hk, -⟩ := hF
    have h12 := hI.le
    obtain ⟨-, hcls⟩ := hk p h4
    have h78 := (Sok.of hcls.ok).2.2.1
    have ep : phV (M.1 5 0 11) x = p := by rw [hT.1.1, h2]; exact phV_in (by omega) (by omega)
    have e : M.1 2 p 11 = vN (PL f p) := hcls.2.2.2.1
    have es : M.1 301 p c = (vS (PL f p) (c + 1) : Int) - vS (PL f p) c := (hcls.2.2.1 c h5).2.1
    have hlt : vS (PL f p) c < vS (PL f p) (c + 1) := (hcls.1.1.2.1 c h5).1
    have esf : sofV (M.1 2 (phV (M.1 5 0 11) x) 11) (M.1 301 (phV (M.1 5 0 11) x)) y = (vS (PL f p) (c + 1) : Int) - vS (PL f p) c := by
      rw [ep, e, h3]
      unfold sofV
      have hN78 : vN (PL f p) ≤ 78 := h78
      rw [if_pos (by omega), atN_in (by omega)]
      exact es
    rw [esf]
    by_cases q : 0 ≤ z ∧ z < (vS (PL f p) (c + 1) : Int) - vS (PL f p) c
    · rw [if_pos q]
      exact Or.inl ⟨rfl, p, c, z.toNat, h2, h3, by omega, h4, h5, by omega⟩
    · rw [if_neg q]
      refine Or.inr ⟨rfl, fun ⟨p', c', s', g1, g2, g3, g4, g5, g6⟩ => q ?_⟩
      have e1 : p' = p := by omega
      have e2 : c' = c := by omega
      subst e1
      subst e2
      omega
  · rw [if_pos h1]
    exact Or.inr ⟨rfl, fun ⟨p', c', s', g1, g2, g3, g4, g5, g6⟩ => h2 ⟨p', c', g1, g2, g4, g5⟩⟩
/-- what is said of a contour -/
noncomputable def cvV (f : Nat → Int) (p c : Nat) (w : Int) : Int := if w = 0 then (vS (PL f p) (c + 1) : Int) - vS (PL f p) c else if w = 1 then hol (PL f p) (vX (PL f p) (vS (PL f p) c)) (vY (PL f p) (vS (PL f p) c)) else if w = 2 then lb (PK f p) (cid (vX (PL f p) (vS (PL f p) c) - hol (PL f p) (vX (PL f p) (vS (PL f p) c)) (vY (PL f p) (vS (PL f p) c))) (vY (PL f p) (vS (PL f p) c))) else cum (vL (PL f p)) (vS (PL f p) (c + 1)) - cum (vL (PL f p)) (vS (PL f p) c)
/-- a vertex out of its side -/
theorem vx_side {P : Int → Int → Bool} {i : Nat} (hd : Dir (sD P i)) : vxV (sD P i) (sA P i) (sL P i) (sH P i) = vX P i ∧ vyV (sD P i) (sA P i) (sL P i) (sH P i) = vY P i := by
  unfold sA sL sH
  generalize sD P i = d at *
  rcases hd with rfl | rfl | rfl | rfl <;> exact ⟨rfl, rfl⟩
end Kinds3

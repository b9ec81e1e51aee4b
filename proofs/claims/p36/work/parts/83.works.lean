/-! the reference works everything out -/
theorem v_emp {P : Int → Int → Bool} (hg : InG P) (h0 : ∀ x y, P x y = false) : Vok P ∧ vE P = 0 ∧ vN P = 0 := by
  have hb : ∀ x y, bn P x y = false := fun x y => by
    unfold bn
    rw [h0, h0, h0, h0]
    rfl
  have hc : Cf P 0 (fun _ => 0) (fun _ => 0) (fun _ => 0) := ⟨⟨rfl, fun c hc => absurd hc (Nat.not_lt_zero c), fun i j hi => absurd hi (Nat.not_lt_zero i)⟩, fun x y hx => by rw [hb] at hx; cases hx⟩
  have hl : LN P ((fun _ => 0 : Nat → Nat) 0) (fun _ => 0) (fun _ => 0) (fun _ => 0) := fun i hi => absurd hi (Nat.not_lt_zero i)
  obtain ⟨u1, -, -, u4⟩ := v_un hg hc hl
  exact ⟨vT_ok hc hl, u4.symm, u1.symm⟩

/-! events -/
theorem phV_out {n p : Int} (h : n ≤ p) : phV n p = 12 := by
  unfold phV
  rw [if_neg (by omega)]
abbrev PL (f : Nat → Int) (k : Nat) : Int → Int → Bool := lay f (2 * k + 1)
theorem IsN.emp {f : Nat → Int} {N : Nat} (h : IsN f N) : Vok (PL f N) ∧ vE (PL f N) = 0 ∧ vN (PL f N) = 0 := v_emp (lay_g f _) (lcnt_0.mp h.2)
/-- what the class says of phase k, the first that is empty included -/
theorem FrC.v {f : Nat → Int} {N k : Nat} {M : Mm} (hF : FrC M f N) (hNo : Non M) (hk : k ≤ N) : ∃ o, phV (M.1 5 0 11) (k : Int) = o ∧ M.1 2 o 13 = vE (PL f k) ∧ M.1 3 o 10 = nc f k ∧ M.1 2 o 12 = vH (PL f k) (vN (PL f k)) := by
  obtain ⟨hN, hT, hk2, -⟩ := hF
  have h12 := hN.le
  rw [hT.1.1]
  by_cases q : k < N
  · obtain ⟨-, -, -, -, a, b, -⟩ := (hk2 k q).2
    exact ⟨k, phV_in (by omega) (by omega), b, (hT.2 k q).1, a⟩
  · have e : k = N := by omega
    obtain ⟨-, v2, v3⟩ := hN.emp
    refine ⟨12, phV_out (by omega), ?_, ?_, ?_⟩
    · rw [hNo.2.2 13 (by omega) (by omega), e, v2]; rfl
    · rw [hNo.2.1, e, hN.nc0 (Nat.le_refl N)]; rfl
    · rw [hNo.2.2 12 (by omega) (by omega), e, v3]; rfl
/-- an event between phase j and the next -/
noncomputable def evB (f : Nat → Int) (j : Nat) : Bool := @decide (¬ (vE (PL f j) = vE (PL f (j + 1)) ∧ nc f j = nc f (j + 1) ∧ vH (PL f j) (vN (PL f j)) = vH (PL f (j + 1)) (vN (PL f (j + 1))))) inferInstance
noncomputable def evN (f : Nat → Int) (n : Nat) : Nat := cntB (evB f) n
theorem evB_t {f : Nat → Int} {j : Nat} : evB f j = true ↔ ¬ (vE (PL f j) = vE (PL f (j + 1)) ∧ nc f j = nc f (j + 1) ∧ vH (PL f j) (vN (PL f j)) = vH (PL f (j + 1)) (vN (PL f (j + 1)))) := decide_eq_true_iff
theorem c526 {f : Nat → Int} {N j : Nat} {M : Mm} {Q : Int → Mm → Prop} (hF : FrC M f N) (hNo : Non M) (hj : j < N) (hQ : Q (b2i (evB f j)) M) : E_526 ((j : Int) + 1) M Q := by
  have h12 := hF.1.le
  obtain ⟨o, a0, a1, a2, a3⟩ := hF.v hNo (k := j) (by omega)
  obtain ⟨o', b0, b1, b2, b3⟩ := hF.v hNo (k := j + 1) (by omega)
  refine s_526_0 ⟨by omega, ?_⟩
  rw [show (j : Int) + 1 - 1 = j by omega, show (j : Int) + 1 = ((j + 1 : Nat) : Int) by omega, a0, b0, a1, b1, a2, b2, a3, b3]
  intro b eb
  have e : b = b2i (evB f j) := by
    rw [eb]
    by_cases q1 : vE (PL f j) = vE (PL f (j + 1))
    · by_cases q2 : nc f j = nc f (j + 1)
      · by_cases q3 : vH (PL f j) (vN (PL f j)) = vH (PL f (j + 1)) (vN (PL f (j + 1)))
        · rw [if_neg (fun h => h (by rw [q1])), if_neg (fun h => h (by rw [q2])), if_pos q3]
          have : evB f j = false := by
            cases hb : evB f j with
            | false => rfl
            | true => exact absurd ⟨q1, q2, q3⟩ (evB_t.mp hb)
          rw [this]; rfl
        · rw [if_neg (fun h => h (by rw [q1])), if_neg (fun h => h (by rw [q2])), if_neg q3, evB_t.mpr (fun h => q3 h.2.2)]; rfl
      · rw [if_neg (fun h => h (by rw [q1])), if_pos (by omega), evB_t.mpr (fun h => q2 h.2.1)]; rfl
    · rw [if_pos (by omega), evB_t.mpr (fun h => q1 h.1)]; rfl
  rw [e]
  exact ⟨b2i_c _, hQ⟩
theorem c527 {f : Nat → Int} {N : Nat} {M : Mm} {Q : Int → Mm → Prop} (hF : FrC M f N) (hNo : Non M) (hQ : Q (evN f N) M) : E_527 M Q := by
  have h12 := hF.1.le
  have h11 := hF.2.1.1.1
  refine s_527_0 ?_
  have key : ∀ s j : Nat, j + s = N → L_527_4 (evN f j : Int) ((j : Int) + 1) M Q := by
    intro s
    induction s with
    | zero =>
      intro j hj
      have e : j = N := by omega
      refine s_527_4 ⟨fun _ => by rw [e]; exact hQ, fun h => by omega⟩
    | succ s ih =>
      intro j hj
      have hle : evN f j ≤ j := cntB_le _ _
      refine s_527_4 ⟨fun h => by omega, fun _ => c526 hF hNo (by omega) ⟨fun _ => by omega, fun x ex => ⟨by omega, ?_⟩⟩⟩
      have e : x = (evN f (j + 1) : Int) := by
        rw [ex]
        unfold evN
        cases hb : evB f j with
        | true => rw [cntB_y hb, if_neg (by rw [b2i_t]; omega)]; rfl
        | false => rw [cntB_n hb, if_pos b2i_f]
      rw [e]
      have := ih (j + 1) (by omega)
      rwa [show ((j + 1 : Nat) : Int) + 1 = (j : Int) + 1 + 1 by omega] at this
  exact key N 0 (by omega)
/-! the reference's -/

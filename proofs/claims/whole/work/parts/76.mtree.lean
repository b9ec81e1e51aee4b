/-! the reference's tree -/
def MTr (M : Mm) (N : Nat) (cnt : Nat → Nat) (pr : Nat → Nat → Int) : Prop := (M.1 10 0 18 = N ∧ N ≤ 12 ∧ ∀ k, N ≤ k → cnt k = 0) ∧ (∀ k, k ≤ N → M.1 1120 0 k = cnt k ∧ cnt k ≤ 72) ∧ ∀ k, k < N → (∀ c, c < cnt k → 0 < k → M.1 1121 0 (80 * k + c) = pr k c) ∧ ∀ b, b < cnt k → M.1 1122 0 (80 * k + b) = kdn cnt pr k b
theorem MTr.fx {M M' : Mm} {N : Nat} {cnt : Nat → Nat} {pr : Nat → Nat → Int} (h : MTr M N cnt pr) (e0 : M'.1 10 0 18 = M.1 10 0 18) (e : ∀ t, t = 1120 ∨ t = 1121 ∨ t = 1122 → M'.1 t 0 = M.1 t 0) : MTr M' N cnt pr := by
  unfold MTr
  rw [e0, e 1120 (by omega), e 1121 (by omega), e 1122 (by omega)]
  exact h
/-- where there is a child, the first one -/
theorem fch_s {cnt : Nat → Nat} {pr : Nat → Nat → Int} {k b : Nat} (h : 0 < kdn cnt pr k b) : fch cnt pr k b < cnt (k + 1) ∧ pr (k + 1) (fch cnt pr k b) = b ∧ ∀ c, c < fch cnt pr k b → pr (k + 1) c ≠ b := by
  obtain ⟨c0, hc0, hc1⟩ := cntB_pos (b := isK pr k b) (n := cnt (k + 1)) h
  rcases fsE_s (isK pr k b) (cnt (k + 1)) with ⟨z1, z2⟩ | ⟨e, z1, z2, z3, z4⟩
  · rw [z2 c0 hc0] at hc1; cases hc1
  · have hfe : fch cnt pr k b = e := by unfold fch; rw [z2]; exact Int.toNat_natCast e
    rw [hfe]
    exact ⟨z1, of_decide_eq_true z3, fun c hc => of_decide_eq_false (z4 c hc)⟩
theorem c1048 {N k b : Nat} {cnt : Nat → Nat} {pr : Nat → Nat → Int} {M : Mm} {Q : Int → Mm → Prop} (hT : MTr M N cnt pr) (h : 0 < kdn cnt pr k b) (hQ : Q (fch cnt pr k b) M) : E_1048 (k : Int) (b : Int) M Q := by
  obtain ⟨f1, f2, f3⟩ := fch_s h
  have hN := hT.1.2.1
  have hk : k + 1 < N := Classical.byContradiction fun hn => by
    have := hT.1.2.2 (k + 1) (by omega)
    omega
  have h72 := (hT.2.1 (k + 1) (by omega)).2
  refine s_1048_0 ?_
  have key : ∀ (s c : Nat), c + s = fch cnt pr k b → L_1048_2 (k : Int) (b : Int) (c : Int) M Q := by
    intro s
    induction s with
    | zero =>
      intro c hc
      have e : c = fch cnt pr k b := by omega
      refine s_1048_2 ?_
      rw [show (80 * ((k : Int) + 1) + (c : Int)).toNat = 80 * (k + 1) + c by omega, (hT.2.2 (k + 1) hk).1 c (by omega) (by omega)]
      refine ⟨⟨by omega, by omega, by omega, by omega⟩, fun _ => ?_, fun hne => ?_⟩
      · rw [e]; exact hQ
      · rw [e] at hne; exact absurd f2 hne
    | succ s ih =>
      intro c hc
      refine s_1048_2 ?_
      rw [show (80 * ((k : Int) + 1) + (c : Int)).toNat = 80 * (k + 1) + c by omega, (hT.2.2 (k + 1) hk).1 c (by omega) (by omega)]
      exact ⟨⟨by omega, by omega, by omega, by omega⟩, fun heq => absurd heq (f3 c (by omega)), fun _ => ⟨by omega, ih (c + 1) (by omega)⟩⟩
  exact key (fch cnt pr k b) 0 (by omega)

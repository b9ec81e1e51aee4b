/-! origins by the reference; extinction -/
/-- how many of the first n hold, from the first on -/
def prf (b : Nat → Bool) : Nat → Nat
  | 0 => 0
  | n + 1 => if prf b n = n ∧ b n = true then n + 1 else prf b n
theorem prf_le (b : Nat → Bool) : ∀ n, prf b n ≤ n
  | 0 => Nat.le_refl 0
  | n + 1 => by
    show (if prf b n = n ∧ b n = true then n + 1 else prf b n) ≤ n + 1
    have := prf_le b n
    split <;> omega
theorem prf_s {b : Nat → Bool} {n : Nat} (h : prf b n = n) (hb : b n = true) : prf b (n + 1) = n + 1 := if_pos ⟨h, hb⟩
theorem prf_e {b : Nat → Bool} {n : Nat} (h : prf b n = n) (hb : b n = false) : ∀ s, prf b (n + s) = n
  | 0 => h
  | s + 1 => by
    have ih := prf_e h hb s
    show (if prf b (n + s) = n + s ∧ b (n + s) = true then n + s + 1 else prf b (n + s)) = n
    rw [if_neg ?_]
    · exact ih
    · rintro ⟨h1, h2⟩
      have : s = 0 := by omega
      subst this
      rw [show n + 0 = n from rfl, hb] at h2
      cases h2
/-- the phases that an edge drives -/
noncomputable def drB (f : Nat → Int) (e p : Nat) : Bool := decide (0 < drN (lay f 1) (lay f (2 * p + 1)) (2 * p + 1) e (vE (lay f (2 * p + 1))))
theorem c521 {e N : Nat} {f : Nat → Int} {M : Mm} {Q : Int → Mm → Prop} (hN : M.1 5 0 11 = N) (h12 : N ≤ 12) (hC : ∀ p, p < N → Cls M p (lay f (2 * p + 1))) (hg : EG (lay f 1)) (hE : Edc M (lay f 1)) (he : e < vE (lay f 1)) (hQ : Q (prf (drB f e) N) M) : E_521 (e : Int) M Q := by
  refine s_521_0 ?_
  have key : ∀ (s p : Nat), p + s = N → prf (drB f e) p = p → L_521_2 (e : Int) (p : Int) M Q := by
    intro s
    induction s with
    | zero =>
      intro p hp h
      refine s_521_2 ⟨fun _ => ?_, fun h => by omega⟩
      rw [show N = p by omega, h] at hQ
      rw [hN, show N = p by omega]
      exact hQ
    | succ s ih =>
      intro p hp h
      refine s_521_2 ⟨fun h => by omega, fun _ => c522 hN (by omega) (by omega) (hC p (by omega)) (Sok.of (hC p (by omega)).ok) hg hE he ⟨fun hr => ⟨by omega, ih (p + 1) (by omega) (prf_s h ?_)⟩, fun hr => ?_⟩⟩
      · refine decide_eq_true (Nat.pos_of_ne_zero fun h0 => hr ?_)
        rw [h0]; rfl
      · have : drB f e p = false := decide_eq_false fun h0 => by rw [if_pos h0] at hr; cases hr
        have := prf_e h this (s + 1)
        rw [hp] at this
        rw [this] at hQ
        exact hQ
  exact key N 0 (by omega) rfl
/-- a frame that leaves the reference's lists -/
def R10 (S : Nat → Prop) (M M' : Mm) : Prop := Fx (fun t j => t = 10 ∧ j = 0) M M' ∧ ∀ q, ¬ S q → M'.1 10 0 q = M.1 10 0 q
theorem R10.rf {S : Nat → Prop} {M : Mm} : R10 S M M := ⟨Fx.rf, fun _ _ => rfl⟩
theorem R10.tr {S : Nat → Prop} {M M1 M2 : Mm} (h : R10 S M M1) (g : R10 S M1 M2) : R10 S M M2 := ⟨h.1.tr g.1, fun q hq => (g.2 q hq).trans (h.2 q hq)⟩
theorem R10.up {S S' : Nat → Prop} {M M1 : Mm} (h : R10 S M M1) (k : ∀ q, S q → S' q) : R10 S' M M1 := ⟨h.1, fun q hq => h.2 q fun g => hq (k q g)⟩

/-! the reference: sides, edges -/
def LN (P : Int → Int → Bool) (T : Nat) (xs ys : Nat → Int) (ln : Nat → Nat) : Prop := ∀ i, i < T → RunN P (xs i) (ys i) (lvd P (xs i) (ys i)) (ln i)
theorem LN.ex {P : Int → Int → Bool} {n : Nat} {st : Nat → Nat} {xs ys : Nat → Int} (h : Ct P n st xs ys) : ∃ ln, LN P (st n) xs ys ln := by
  have key : ∀ i : Nat, ∃ N : Nat, i < st n → RunN P (xs i) (ys i) (lvd P (xs i) (ys i)) N := by
    intro i
    by_cases hi : i < st n
    · obtain ⟨c, h1, h2, h3⟩ := h.find hi
      obtain ⟨N, hN, -⟩ := ((h.2.1 c h1).2.1 i h2 h3).2
      exact ⟨N, fun _ => hN⟩
    · exact ⟨0, fun h => absurd h hi⟩
  obtain ⟨ln, hln⟩ := Classical.axiomOfChoice key
  exact ⟨ln, fun i hi => hln i hi⟩
/-- the point behind a side -/
theorem LN.nx {P : Int → Int → Bool} {n : Nat} {st : Nat → Nat} {xs ys : Nat → Int} {ln : Nat → Nat} (h : Ct P n st xs ys) (hl : LN P (st n) xs ys ln) {c i : Nat} (hc : c < n) (h1 : st c ≤ i) (h2 : i < st (c + 1)) : xs (nxi (st c) (st (c + 1)) i) = xs i + ln i * stepXV (lvd P (xs i) (ys i)) ∧ ys (nxi (st c) (st (c + 1)) i) = ys i + ln i * stepYV (lvd P (xs i) (ys i)) := by
  have hi : i < st n := by
    have := h.mono (c := c + 1) (d := n) (by omega) (Nat.le_refl n)
    omega
  obtain ⟨N, hN, e1, e2⟩ := ((h.2.1 c hc).2.1 i h1 h2).2
  rw [(hl i hi).un hN]
  exact ⟨e1, e2⟩

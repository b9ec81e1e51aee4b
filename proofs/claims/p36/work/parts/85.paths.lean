/-! clearance; the shortest path -/
/-! a search by steps: steps, queue, how many -/
abbrev SQ : Type := (Nat → Int) × (Nat → Int) × Nat
def dnx (x d : Nat) : Int := ((x % 48 : Nat) : Int) + dX d
def dny (x d : Nat) : Int := ((x / 48 : Nat) : Int) + dY d
def dstep (P : Int → Int → Bool) (x d : Nat) (s : SQ) : SQ := if P (dnx x d) (dny x d) = true ∧ s.1 (48 * dny x d + dnx x d).toNat < 0 then (ups s.1 (48 * dny x d + dnx x d).toNat (s.1 x + 1), ups s.2.1 s.2.2 (48 * dny x d + dnx x d), s.2.2 + 1) else s
def SI (s : SQ) : Prop := s.2.2 = cl s.1 2304 ∧ (∀ i, i < s.2.2 → ∃ v : Nat, v < 2304 ∧ s.2.1 i = v ∧ 0 ≤ s.1 v) ∧ ∀ q, q < 2304 → s.1 q < s.2.2
theorem SI.le {s : SQ} (h : SI s) : s.2.2 ≤ 2304 := by rw [h.1]; exact cl_le _ _
theorem dstep_n {P : Int → Int → Bool} {x d : Nat} {s : SQ} (h : ¬ (P (dnx x d) (dny x d) = true ∧ s.1 (48 * dny x d + dnx x d).toNat < 0)) : dstep P x d s = s := if_neg h
theorem dstep_y {P : Int → Int → Bool} {x d : Nat} {s : SQ} (h : P (dnx x d) (dny x d) = true ∧ s.1 (48 * dny x d + dnx x d).toNat < 0) : dstep P x d s = (ups s.1 (48 * dny x d + dnx x d).toNat (s.1 x + 1), ups s.2.1 s.2.2 (48 * dny x d + dnx x d), s.2.2 + 1) := if_pos h
theorem dn_lt {P : Int → Int → Bool} (hg : InG P) {x d : Nat} (h : P (dnx x d) (dny x d) = true) : 0 ≤ 48 * dny x d + dnx x d ∧ 48 * dny x d + dnx x d < 2304 := by
  have := hg _ _ h
  omega
theorem SI.st {P : Int → Int → Bool} (hg : InG P) {x d : Nat} {s : SQ} (h : SI s) (hx : x < 2304) (h0 : 0 ≤ s.1 x) : SI (dstep P x d s) ∧ 0 ≤ (dstep P x d s).1 x := by
  by_cases q : P (dnx x d) (dny x d) = true ∧ s.1 (48 * dny x d + dnx x d).toNat < 0
  · rw [dstep_y q]
    obtain ⟨h1, h2, h3⟩ := h
    have hl := dn_lt hg q.1
    obtain ⟨v, hv⟩ : ∃ v : Nat, 48 * dny x d + dnx x d = v := ⟨(48 * dny x d + dnx x d).toNat, by omega⟩
    rw [hv] at hl q ⊢
    rw [Int.toNat_natCast] at q ⊢
    have hxv : x ≠ v := fun e => by rw [e] at h0; omega
    have hx3 := h3 x hx
    have hc : cl (ups s.1 v (s.1 x + 1)) 2304 = cl s.1 2304 + 1 := cl_up (k := v) (by omega) q.2 (by rw [ups_at]; omega) fun y _ hy => ups_ne hy
    refine ⟨⟨by rw [hc, ← h1], fun i hi => ?_, fun y hy => ?_⟩, ?_⟩
    · by_cases e : i = s.2.2
      · exact ⟨v, by omega, by show ups s.2.1 s.2.2 (v : Int) i = v; rw [e, ups_at], by show 0 ≤ ups s.1 v (s.1 x + 1) v; rw [ups_at]; omega⟩
      · have hi' : i < s.2.2 + 1 := hi
        obtain ⟨w, w1, w2, w3⟩ := h2 i (by omega)
        have hwv : w ≠ v := fun e => by rw [e] at w3; omega
        exact ⟨w, w1, by show ups s.2.1 s.2.2 (v : Int) i = w; rw [ups_ne e]; exact w2, by show 0 ≤ ups s.1 v (s.1 x + 1) w; rw [ups_ne hwv]; exact w3⟩
    · show ups s.1 v (s.1 x + 1) y < ((s.2.2 + 1 : Nat) : Int)
      by_cases e : y = v
      · rw [e, ups_at]; omega
      · rw [ups_ne e]
        have := h3 y hy
        omega
    · show 0 ≤ ups s.1 v (s.1 x + 1) x
      rw [ups_ne hxv]; exact h0
  · rw [dstep_n q]
    exact ⟨h, h0⟩
/-- the search from q -/
def sq0 (q : Nat) : SQ := (fun v => if v = q then 0 else -1, fun _ => (q : Int), 1)
theorem SI.z {q : Nat} (hq : q < 2304) : SI (sq0 q) := by
  refine ⟨?_, fun i hi => ⟨q, hq, rfl, ?_⟩, fun y hy => ?_⟩
  · have hc : cl (sq0 q).1 2304 = cl (fun _ => (-1 : Int)) 2304 + 1 := cl_up (k := q) hq (by decide) (by show (0 : Int) ≤ if q = q then 0 else -1; rw [if_pos rfl]; decide) fun y _ hy => if_neg hy
    have h0 : cl (fun _ => (-1 : Int)) 2304 = 0 := by
      rcases Nat.eq_zero_or_pos (cl (fun _ => (-1 : Int)) 2304) with g | g
      · exact g
      · obtain ⟨x, -, hx⟩ := cntB_pos g
        exact absurd (show (0 : Int) ≤ -1 from of_decide_eq_true hx) (by decide)
    rw [hc, h0]; rfl
  · show (0 : Int) ≤ if q = q then 0 else -1
    rw [if_pos rfl]; decide
  · show (if y = q then (0 : Int) else -1) < ((1 : Nat) : Int)
    split <;> omega
/-! the reference's search -/

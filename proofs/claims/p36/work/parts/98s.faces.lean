/-! every cell has a face; edges; corners -/
theorem ctl {f : Nat → Int} {k : Nat} (h : Vok (lay f (2 * k + 1))) : Ctl (lay f (2 * k + 1)) (vN (lay f (2 * k + 1))) (vS (lay f (2 * k + 1))) (vX (lay f (2 * k + 1))) (vY (lay f (2 * k + 1))) (vL (lay f (2 * k + 1))) := ⟨lay_g f _, pk_nod f k, h.1.1, h.2⟩
theorem lay1_t {f : Nat → Int} {q r x y : Int} (h : cel f q r = true) (hx : x = 4 * q + 1 ∨ x = 4 * q + 2) (hy : y = 4 * r + 1 ∨ y = 4 * r + 2) : lay f 1 x y = true := lay_w.mpr fun i j a b c d => by
  rw [show (x + i) / 4 = q by omega, show (y + j) / 4 = r by omega]
  exact h
theorem lay1_f {f : Nat → Int} {q r x y : Int} (i j : Int) (h : cel f q r = false) (hi : -1 ≤ i ∧ i ≤ 1) (hj : -1 ≤ j ∧ j ≤ 1) (ex : (x + i) / 4 = q) (ey : (y + j) / 4 = r) : lay f 1 x y = false := by
  cases e : lay f 1 x y with
  | false => rfl
  | true =>
    have := lay_w.mp e i j (by omega) (by omega) (by omega) (by omega)
    rw [ex, ey, h] at this
    cases this
section FE
variable {f : Nat → Int}
/-- the line of a boundary -/
theorem ln_4 {x y d : Int} (h : Ed (lay f 1) x y d) (hx : x % 2 = 1) (hy : y % 2 = 1) : (d = 0 → y % 4 = 1) ∧ (d = 1 → x % 4 = 3) ∧ (d = 2 → y % 4 = 3) ∧ (d = 3 → x % 4 = 1) := by
  refine ⟨fun e => ?_, fun e => ?_, fun e => ?_, fun e => ?_⟩
  · obtain ⟨a, b⟩ := h.r0 e
    refine Classical.byContradiction fun g => ?_
    have := (lay1_y (f := f) (y := y) (by omega) x).1
    rw [a, b] at this
    cases this
  · obtain ⟨a, b⟩ := h.r1 e
    refine Classical.byContradiction fun g => ?_
    have := (lay1_x (f := f) (x := x - 2) (by omega) y).2
    rw [show x - 2 + 1 = x - 1 by omega, show x - 2 + 2 = x by omega, a, b, Bool.and_false] at this
    cases this
  · obtain ⟨a, b⟩ := h.r2 e
    refine Classical.byContradiction fun g => ?_
    have := (lay1_y (f := f) (y := y - 2) (by omega) (x - 1)).2
    rw [show y - 2 + 1 = y - 1 by omega, show y - 2 + 2 = y by omega, a, b, Bool.and_false] at this
    cases this
  · obtain ⟨a, b⟩ := h.r3 e
    refine Classical.byContradiction fun g => ?_
    have := (lay1_x (f := f) (x := x) (by omega) (y - 1)).1
    rw [a, b] at this
    cases this
/-- a piece of the boundary lies on an edge -/
theorem edge_in (h : Vok (lay f 1)) {x y d t l : Int} (hE : Ed (lay f 1) x y d) (ht : (d = 0 → t = x ∧ l = y) ∧ (d = 1 → t = y ∧ l = x) ∧ (d = 2 → t = x - 1 ∧ l = y) ∧ (d = 3 → t = y - 1 ∧ l = x)) (h4 : t % 4 = 1) : ∃ i, i < vE (lay f 1) ∧ xD (lay f 1) i = d ∧ xL (lay f 1) i = (l + 1) / 4 ∧ xA (lay f 1) i ≤ t / 4 ∧ t / 4 + 1 ≤ xB (lay f 1) i := by
  have hcov : ∃ i k : Nat, i < vE (lay f 1) ∧ lvd (lay f 1) (vX (lay f 1) i) (vY (lay f 1) i) = d ∧ k < vL (lay f 1) i ∧ x = vX (lay f 1) i + k * stepXV d ∧ y = vY (lay f 1) i + k * stepYV d := (ctl (k := 0) h).cover h.1.2 hE
  obtain ⟨i, k, i1, i2, i3, i4, i5⟩ := hcov
  have hb := h.1.1.bend i1
  have hN : RunN (lay f 1) (vX (lay f 1) i) (vY (lay f 1) i) (lvd (lay f 1) (vX (lay f 1) i) (vY (lay f 1) i)) (vL (lay f 1) i) := h.2 i i1
  have o1 := bn_odd (f := f) (k := 0) hb
  have o2 := bn_odd (f := f) (k := 0) hN.2.2
  refine ⟨i, i1, i2, ?_, ?_, ?_⟩
  · show (linS (lvd (lay f 1) (vX (lay f 1) i) (vY (lay f 1) i)) (vX (lay f 1) i) (vY (lay f 1) i) + 1) / 4 = _
    have i2' : lvd (lay f 1) (vX (lay f 1) i) (vY (lay f 1) i) = d := i2
    rw [i2'] at *
    unfold linS levV
    rcases step_cases hE.dir with ⟨e, a, b⟩ | ⟨e, a, b⟩ | ⟨e, a, b⟩ | ⟨e, a, b⟩ <;> rw [a] at i4 <;> rw [b] at i5 <;> simp only [e] <;> simp <;> omega
  · show (loS (lvd (lay f 1) (vX (lay f 1) i) (vY (lay f 1) i)) (vX (lay f 1) i) (vY (lay f 1) i) (vL (lay f 1) i) + 1) / 4 ≤ _
    have i2' : lvd (lay f 1) (vX (lay f 1) i) (vY (lay f 1) i) = d := i2
    rw [i2'] at *
    unfold loS risS algS levV
    rcases step_cases hE.dir with ⟨e, a, b⟩ | ⟨e, a, b⟩ | ⟨e, a, b⟩ | ⟨e, a, b⟩ <;> rw [a] at i4 <;> rw [b] at i5 <;> simp only [e] <;> simp <;> omega
  · show _ ≤ (hiS (lvd (lay f 1) (vX (lay f 1) i) (vY (lay f 1) i)) (vX (lay f 1) i) (vY (lay f 1) i) (vL (lay f 1) i) + 1) / 4
    have i2' : lvd (lay f 1) (vX (lay f 1) i) (vY (lay f 1) i) = d := i2
    rw [i2'] at o2 ⊢
    unfold hiS risS algS levV
    rcases step_cases hE.dir with ⟨e, a, b⟩ | ⟨e, a, b⟩ | ⟨e, a, b⟩ | ⟨e, a, b⟩ <;> rw [a, b] at o2 <;> rw [a] at i4 <;> rw [b] at i5 <;> simp only [e] <;> simp <;> omega
theorem fB_t {P : Int → Int → Bool} {px py h : Int} {e : Nat} (a : 8 * xL P e = lnF px py h (xD P e)) (b : alF px py (xD P e) - h < 8 * xB P e) (c : 8 * xA P e < alF px py (xD P e) + h) : fB P px py h e = true := decide_eq_true ⟨a, b, c⟩
/-- a face over every cell -/
theorem face_ex (h : Vok (lay f 1)) {c : Nat} (h0 : 0 < sd f c 25) : ∃ e, e < vE (lay f 1) ∧ fB (lay f 1) (2 * smx c + 1) (2 * smy c + 1) (2 * (sd f c 25 : Int) - 1) e = true := by
  obtain ⟨k1, k2⟩ := sd_lay (f := f) (c := c) (n := 25)
  have hin := lay_in (k1 (sd f c 25 - 1) (by omega))
  have hlt : sd f c 25 < 25 := by omega
  have k2 := k2 hlt
  have k1 := lay_w.mp (k1 (sd f c 25 - 1) (by omega))
  have hX : smx c % 4 = 0 := by unfold smx; omega
  have hY : smy c % 4 = 1 := by unfold smy; omega
  generalize sd f c 25 = s at *
  generalize smx c = X at *
  generalize smy c = Y at *
  rw [show ((s - 1 : Nat) : Int) = (s : Int) - 1 by omega] at k1
  refine Classical.byContradiction fun hno => ?_
  have no : ∀ i, i < vE (lay f 1) → 8 * xL (lay f 1) i = lnF (2 * X + 1) (2 * Y + 1) (2 * (s : Int) - 1) (xD (lay f 1) i) → alF (2 * X + 1) (2 * Y + 1) (xD (lay f 1) i) - (2 * (s : Int) - 1) < 8 * xB (lay f 1) i → 8 * xA (lay f 1) i < alF (2 * X + 1) (2 * Y + 1) (xD (lay f 1) i) + (2 * (s : Int) - 1) → False := fun i hi a b d => hno ⟨i, hi, fB_t a b d⟩
  have all : lay f s X Y = true := lay_w.mpr fun i j a b d e => by
    cases hc : cel f ((X + i) / 4) ((Y + j) / 4) with
    | true => rfl
    | false =>
      exfalso
      have hi : ∃ i' : Int, -((s : Int) - 1) ≤ i' ∧ i' ≤ (s : Int) - 1 ∧ (i = i' ∨ i = -s ∧ i' = -s + 1 ∨ i = s ∧ i' = s - 1) := by
        by_cases g : i = -s
        · exact ⟨-s + 1, by omega, by omega, Or.inr (Or.inl ⟨g, rfl⟩)⟩
        · by_cases g2 : i = s
          · exact ⟨s - 1, by omega, by omega, Or.inr (Or.inr ⟨g2, rfl⟩)⟩
          · exact ⟨i, by omega, by omega, Or.inl rfl⟩
      have hj : ∃ j' : Int, -((s : Int) - 1) ≤ j' ∧ j' ≤ (s : Int) - 1 ∧ (j = j' ∨ j = -s ∧ j' = -s + 1 ∨ j = s ∧ j' = s - 1) := by
        by_cases g : j = -s
        · exact ⟨-s + 1, by omega, by omega, Or.inr (Or.inl ⟨g, rfl⟩)⟩
        · by_cases g2 : j = s
          · exact ⟨s - 1, by omega, by omega, Or.inr (Or.inr ⟨g2, rfl⟩)⟩
          · exact ⟨j, by omega, by omega, Or.inl rfl⟩
      obtain ⟨i', i1, i2, i3⟩ := hi
      obtain ⟨j', j1, j2, j3⟩ := hj
      have hk := k1 i' j' (by omega) i2 (by omega) j2
      by_cases same : (X + i) / 4 = (X + i') / 4 ∧ (Y + j) / 4 = (Y + j') / 4
      · rw [same.1, same.2, hk] at hc
        cases hc
      · rcases (show (s : Int) % 4 = 0 ∨ (s : Int) % 4 = 3 ∨ (s : Int) % 4 = 1 ∨ (s : Int) % 4 = 2 by omega) with q | q | q | q
        · -- east
          have ei : i = s ∧ i' = s - 1 := by omega
          have ej : (Y + j) / 4 = (Y + j') / 4 := by omega
          rw [ej, ei.1] at hc
          rw [ei.2] at hk
          have eL : (X + (s - 1)) / 4 = (X + s) / 4 - 1 := by omega
          rw [eL] at hk
          have e4 : X + s = 4 * ((X + s) / 4) := by omega
          have ej2 : 4 * ((Y + j') / 4) ≤ Y + j' ∧ Y + j' < 4 * ((Y + j') / 4) + 4 := by omega
          generalize (X + (s : Int)) / 4 = L at *
          generalize (Y + j') / 4 = r at *
          have hE : Ed (lay f 1) (4 * L - 1) (4 * r + 1) 1 := Or.inr (Or.inl ⟨rfl, lay1_t hk (by omega) (by omega), lay1_f 1 0 hc (by omega) (by omega) (by omega) (by omega)⟩)
          obtain ⟨e, e1, e2, e3, e5, e6⟩ := edge_in h (t := 4 * r + 1) (l := 4 * L - 1) hE (by omega) (by omega)
          refine no e e1 ?_ ?_ ?_
          · rw [e2, e3]; simp [lnF, levV, upV]; omega
          · rw [e2]; simp [alF, levV]; omega
          · rw [e2]; simp [alF, levV]; omega
        · -- north
          have ej : j = s ∧ j' = s - 1 := by omega
          have ei : (X + i) / 4 = (X + i') / 4 := by omega
          rw [ei, ej.1] at hc
          rw [ej.2] at hk
          have eL : (Y + (s - 1)) / 4 = (Y + s) / 4 - 1 := by omega
          rw [eL] at hk
          have e4 : Y + s = 4 * ((Y + s) / 4) := by omega
          have ej2 : 4 * ((X + i') / 4) ≤ X + i' ∧ X + i' < 4 * ((X + i') / 4) + 4 := by omega
          generalize (Y + (s : Int)) / 4 = L at *
          generalize (X + i') / 4 = r at *
          have hE : Ed (lay f 1) (4 * r + 2) (4 * L - 1) 2 := Or.inr (Or.inr (Or.inl ⟨rfl, lay1_t hk (by omega) (by omega), lay1_f 0 1 hc (by omega) (by omega) (by omega) (by omega)⟩))
          obtain ⟨e, e1, e2, e3, e5, e6⟩ := edge_in h (t := 4 * r + 1) (l := 4 * L - 1) hE (by omega) (by omega)
          refine no e e1 ?_ ?_ ?_
          · rw [e2, e3]; simp [lnF, levV, upV]; omega
          · rw [e2]; simp [alF, levV]; omega
          · rw [e2]; simp [alF, levV]; omega
        · -- west
          have ei : i = -s ∧ i' = -s + 1 := by omega
          have ej : (Y + j) / 4 = (Y + j') / 4 := by omega
          rw [ej, ei.1] at hc
          rw [ei.2] at hk
          have eL : (X + -s) / 4 = (X + (-s + 1)) / 4 - 1 := by omega
          rw [eL] at hc
          have e4 : X + (-s + 1) = 4 * ((X + (-s + 1)) / 4) := by omega
          have ej2 : 4 * ((Y + j') / 4) ≤ Y + j' ∧ Y + j' < 4 * ((Y + j') / 4) + 4 := by omega
          generalize (X + (-(s : Int) + 1)) / 4 = L at *
          generalize (Y + j') / 4 = r at *
          have hE : Ed (lay f 1) (4 * L + 1) (4 * r + 2) 3 := Or.inr (Or.inr (Or.inr ⟨rfl, lay1_t hk (by omega) (by omega), lay1_f (-1) 0 hc (by omega) (by omega) (by omega) (by omega)⟩))
          obtain ⟨e, e1, e2, e3, e5, e6⟩ := edge_in h (t := 4 * r + 1) (l := 4 * L + 1) hE (by omega) (by omega)
          refine no e e1 ?_ ?_ ?_
          · rw [e2, e3]; simp [lnF, levV, upV]; omega
          · rw [e2]; simp [alF, levV]; omega
          · rw [e2]; simp [alF, levV]; omega
        · -- south
          have ej : j = -s ∧ j' = -s + 1 := by omega
          have ei : (X + i) / 4 = (X + i') / 4 := by omega
          rw [ei, ej.1] at hc
          rw [ej.2] at hk
          have eL : (Y + -s) / 4 = (Y + (-s + 1)) / 4 - 1 := by omega
          rw [eL] at hc
          have e4 : Y + (-s + 1) = 4 * ((Y + (-s + 1)) / 4) := by omega
          have ej2 : 4 * ((X + i') / 4) ≤ X + i' ∧ X + i' < 4 * ((X + i') / 4) + 4 := by omega
          generalize (Y + (-(s : Int) + 1)) / 4 = L at *
          generalize (X + i') / 4 = r at *
          have hE : Ed (lay f 1) (4 * r + 1) (4 * L + 1) 0 := Or.inl ⟨rfl, lay1_t hk (by omega) (by omega), lay1_f 0 (-1) hc (by omega) (by omega) (by omega) (by omega)⟩
          obtain ⟨e, e1, e2, e3, e5, e6⟩ := edge_in h (t := 4 * r + 1) (l := 4 * L + 1) hE (by omega) (by omega)
          refine no e e1 ?_ ?_ ?_
          · rw [e2, e3]; simp [lnF, levV, upV]; omega
          · rw [e2]; simp [alF, levV]; omega
          · rw [e2]; simp [alF, levV]; omega
  rw [all] at k2
  cases k2
theorem fc_t (h : Vok (lay f 1)) {x y : Nat} (hx : x < 12) (hy : y < 12) (e : cel f x y = true) : ∃ k : Nat, k < vE (lay f 1) ∧ fcC f (12 * y + x) = k := by
  have h0 := (sd_cel hx hy).mpr e
  obtain ⟨j, j1, j2⟩ := face_ex h h0
  have hf := fsE_s (fB (lay f 1) (2 * smx (12 * y + x) + 1) (2 * smy (12 * y + x) + 1) (2 * (sd f (12 * y + x) 25 : Int) - 1)) (vE (lay f 1))
  unfold fcC fcV
  rw [if_pos (by omega)]
  rcases hf with ⟨-, b⟩ | ⟨k, k1, k2, -⟩
  · rw [b j j1] at j2; cases j2
  · exact ⟨k, k1, k2⟩
theorem fc_f {x y : Nat} (hx : x < 12) (hy : y < 12) (e : cel f x y = false) : fcC f (12 * y + x) = -1 := by
  unfold fcC
  refine if_neg fun g => ?_
  have := (sd_cel hx hy).mp (Nat.pos_of_ne_zero g)
  rw [e] at this
  cases this
/-- how much the faces hold, of the first n -/
noncomputable def fcS (f : Nat → Int) (n : Nat) : Int := sumN (fun e => (fcN f e 144 : Int)) n
noncomputable def lnS (f : Nat → Int) (n : Nat) : Int := sumN (fun e => xB (lay f 1) e - xA (lay f 1) e) n
theorem fcS_all (h : Vok (lay f 1)) : fcS f (vE (lay f 1)) = clN f 144 := by
  have e1 : fcS f (vE (lay f 1)) = sumN (fun e => sumN (fun c => b2i (decide (fcC f c = (e : Int)))) 144) (vE (lay f 1)) := sumN_congr fun e _ => cntB_sum _ _
  rw [e1, sumN_swap]
  refine sumN_congr fun c hc => ?_
  have hx : c % 12 < 12 := by omega
  have hy : c / 12 < 12 := by omega
  have ec : 12 * (c / 12) + c % 12 = c := by omega
  cases e : cel f ((c % 12 : Nat) : Int) ((c / 12 : Nat) : Int) with
  | true =>
    obtain ⟨k, k1, k2⟩ := fc_t h hx hy e
    rw [ec] at k2
    rw [show sumN (fun e => b2i (decide (fcC f c = (e : Int)))) (vE (lay f 1)) = sumN (fun q => iteP (q = k) 1 0) (vE (lay f 1)) from sumN_congr fun q _ => by
      by_cases g : q = k
      · rw [iteP_t g, decide_eq_true (by rw [k2, g])]; rfl
      · rw [iteP_f g, decide_eq_false (by rw [k2]; omega)]; rfl, sum_one k1]
    rfl
  | false =>
    have k2 := fc_f hx hy e
    rw [ec] at k2
    exact sumN_z fun q _ => by rw [k2, decide_eq_false (by omega)]; rfl
theorem fcS_b : ∀ n, 0 ≤ fcS f n ∧ fcS f n ≤ 144 * n
  | 0 => ⟨Int.le_refl 0, Int.le_refl 0⟩
  | n + 1 => by
    have ih := fcS_b n
    have : fcN f n 144 ≤ 144 := cntB_le _ _
    have e : fcS f (n + 1) = fcS f n + (fcN f n 144 : Int) := rfl
    omega
theorem lnS_b (h : Vok (lay f 1)) : ∀ n, n ≤ vE (lay f 1) → 0 ≤ lnS f n ∧ lnS f n ≤ 12 * n
  | 0, _ => ⟨Int.le_refl 0, Int.le_refl 0⟩
  | n + 1, hn => by
    have ih := lnS_b h n (by omega)
    have b : Dir (xD (lay f 1) n) ∧ (0 ≤ xL (lay f 1) n ∧ xL (lay f 1) n ≤ 12) ∧ (0 ≤ xA (lay f 1) n ∧ xA (lay f 1) n ≤ 12) ∧ 0 ≤ xB (lay f 1) n ∧ xB (lay f 1) n ≤ 12 := (EG.of h).2 n (by omega)
    have p := edge_pos h (i := n) (by omega)
    have e : lnS f (n + 1) = lnS f n + (xB (lay f 1) n - xA (lay f 1) n) := rfl
    omega
/-- an edge drives a side of the first phase -/
theorem dr_0 (h : Vok (lay f 1)) {e : Nat} (he : e < vE (lay f 1)) : drB f e 0 = true := by
  refine decide_eq_true ?_
  show 0 < cntB (fun i => oQ (lay f 1) (lay f 1) (2 * ((0 : Nat) : Int) + 1) i e) (vE (lay f 1))
  have hq : oQ (lay f 1) (lay f 1) (2 * ((0 : Nat) : Int) + 1) e e = true := by
    have hD : NoD (lay f 1) := pk_nod f 0
    have hb := h.1.1.bend he
    have hN : RunN (lay f 1) (vX (lay f 1) e) (vY (lay f 1) e) (lvd (lay f 1) (vX (lay f 1) e) (vY (lay f 1) e)) (vL (lay f 1) e) := h.2 e he
    have hE := bn_lv hD hb
    have o1 := bn_odd (f := f) (k := 0) hb
    have o2 := bn_odd (f := f) (k := 0) hN.2.2
    have l4 := ln_4 hE (by omega) (by omega)
    have hn := hN.1
    refine oQ_iff.mpr ⟨rfl, ?_, ?_, ?_⟩
    · show 4 * ((linS (sD (lay f 1) e) (vX (lay f 1) e) (vY (lay f 1) e) + 1) / 4) = linS (sD (lay f 1) e) (vX (lay f 1) e) (vY (lay f 1) e) + inS (sD (lay f 1) e) (2 * ((0 : Nat) : Int) + 1)
      have e : lvd (lay f 1) (vX (lay f 1) e) (vY (lay f 1) e) = sD (lay f 1) e := rfl
      rw [e] at l4 hE
      unfold linS inS levV upV
      rcases hE.dir with g | g | g | g <;> simp only [g] at l4 ⊢ <;> simp at l4 ⊢ <;> omega
    · show loS (sD (lay f 1) e) (vX (lay f 1) e) (vY (lay f 1) e) (vL (lay f 1) e) - (2 * ((0 : Nat) : Int) + 1) < 4 * ((hiS (sD (lay f 1) e) (vX (lay f 1) e) (vY (lay f 1) e) (vL (lay f 1) e) + 1) / 4)
      have e : lvd (lay f 1) (vX (lay f 1) e) (vY (lay f 1) e) = sD (lay f 1) e := rfl
      rw [e] at o2 hE
      unfold loS hiS risS algS levV
      rcases step_cases hE.dir with ⟨g, a, b⟩ | ⟨g, a, b⟩ | ⟨g, a, b⟩ | ⟨g, a, b⟩ <;> rw [a, b] at o2 <;> simp only [g] <;> simp <;> omega
    · show 4 * ((loS (sD (lay f 1) e) (vX (lay f 1) e) (vY (lay f 1) e) (vL (lay f 1) e) + 1) / 4) < hiS (sD (lay f 1) e) (vX (lay f 1) e) (vY (lay f 1) e) (vL (lay f 1) e) + (2 * ((0 : Nat) : Int) + 1)
      have e : lvd (lay f 1) (vX (lay f 1) e) (vY (lay f 1) e) = sD (lay f 1) e := rfl
      rw [e] at hE
      unfold loS hiS risS algS levV
      rcases step_cases hE.dir with ⟨g, a, b⟩ | ⟨g, a, b⟩ | ⟨g, a, b⟩ | ⟨g, a, b⟩ <;> simp only [g] <;> simp <;> omega
  have h1 : cntB (fun i => oQ (lay f 1) (lay f 1) (2 * ((0 : Nat) : Int) + 1) i e) (e + 1) ≤ cntB (fun i => oQ (lay f 1) (lay f 1) (2 * ((0 : Nat) : Int) + 1) i e) (vE (lay f 1)) := cntB_mono he
  have h2 := cntB_y (b := fun i => oQ (lay f 1) (lay f 1) (2 * ((0 : Nat) : Int) + 1) i e) (n := e) hq
  omega
theorem prf_1 {b : Nat → Bool} (h : b 0 = true) : ∀ n, 0 < n → 1 ≤ prf b n
  | 0, h0 => absurd h0 (Nat.lt_irrefl 0)
  | 1, _ => by rw [prf_s (n := 0) rfl h]; exact Nat.le_refl 1
  | n + 2, _ => by
    have ih := prf_1 h (n + 1) (by omega)
    show 1 ≤ (if prf b (n + 1) = n + 1 ∧ b (n + 1) = true then n + 2 else prf b (n + 1))
    split <;> omega
end FE

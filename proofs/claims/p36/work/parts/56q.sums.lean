/-! sums: of lists, of grids, by corners -/
theorem sumN_add (f g : Nat → Int) : ∀ n, sumN (fun i => f i + g i) n = sumN f n + sumN g n
  | 0 => rfl
  | n + 1 => by
    show sumN (fun i => f i + g i) n + (f n + g n) = (sumN f n + f n) + (sumN g n + g n)
    rw [sumN_add f g n]
    omega
theorem sumN_mulc (a : Int) (g : Nat → Int) : ∀ n, sumN (fun i => a * g i) n = a * sumN g n
  | 0 => by show (0 : Int) = a * 0; omega
  | n + 1 => by
    show sumN (fun i => a * g i) n + a * g n = a * (sumN g n + g n)
    rw [sumN_mulc a g n, Int.mul_add]
theorem sumN_z {g : Nat → Int} : ∀ {n : Nat}, (∀ i, i < n → g i = 0) → sumN g n = 0
  | 0, _ => rfl
  | n + 1, h => by
    show sumN g n + g n = 0
    rw [sumN_z (fun i hi => h i (by omega)), h n (by omega)]
    rfl
theorem sumN_c (a : Int) : ∀ n, sumN (fun _ => a) n = a * n
  | 0 => by show (0 : Int) = a * 0; omega
  | n + 1 => by
    show sumN (fun _ => a) n + a = a * ((n : Int) + 1)
    rw [sumN_c a n, Int.mul_add, Int.mul_one]
theorem sumN_cat (g : Nat → Int) (a : Nat) : ∀ m, sumN g (a + m) = sumN g a + sumN (fun i => g (a + i)) m
  | 0 => by show sumN g a = sumN g a + 0; omega
  | m + 1 => by
    show sumN g (a + m) + g (a + m) = sumN g a + (sumN (fun i => g (a + i)) m + g (a + m))
    rw [sumN_cat g a m]
    omega
theorem sumN_sh (g : Nat → Int) : ∀ n, sumN (fun i => g (i + 1)) n = sumN g n + g n - g 0
  | 0 => by show (0 : Int) = 0 + g 0 - g 0; omega
  | n + 1 => by
    show sumN (fun i => g (i + 1)) n + g (n + 1) = sumN g n + g n + g (n + 1) - g 0
    rw [sumN_sh g n]
    omega
theorem sumN_le {f g : Nat → Int} : ∀ {n : Nat}, (∀ i, i < n → f i ≤ g i) → sumN f n ≤ sumN g n
  | 0, _ => Int.le_refl _
  | n + 1, h => by
    have ih := sumN_le (n := n) (fun i hi => h i (by omega))
    have := h n (by omega)
    show sumN f n + f n ≤ sumN g n + g n
    omega
theorem sumN_ev {g : Nat → Int} : ∀ {n : Nat}, (∀ i, i < n → g i % 2 = 0) → sumN g n % 2 = 0
  | 0, _ => rfl
  | n + 1, h => by
    have ih := sumN_ev (n := n) (fun i hi => h i (by omega))
    have := h n (by omega)
    show (sumN g n + g n) % 2 = 0
    omega
theorem sumN_swap (g : Nat → Nat → Int) (m : Nat) : ∀ n, sumN (fun i => sumN (fun j => g i j) m) n = sumN (fun j => sumN (fun i => g i j) n) m
  | 0 => (sumN_z (fun _ _ => rfl)).symm
  | n + 1 => by
    show sumN (fun i => sumN (fun j => g i j) m) n + sumN (fun j => g n j) m = sumN (fun j => sumN (fun i => g i j) n + g n j) m
    rw [sumN_swap g m n, ← sumN_add]
/-- contour by contour -/
theorem sum_ct {P : Int → Int → Bool} {n : Nat} {st : Nat → Nat} {xs ys : Nat → Int} (h : Ct P n st xs ys) (g : Nat → Int) : ∀ c, c ≤ n → sumN (fun c => sumN (fun i => g (st c + i)) (st (c + 1) - st c)) c = sumN g (st c)
  | 0, _ => by rw [h.1]; rfl
  | c + 1, hc => by
    have h1 := (h.2.1 c (by omega)).1
    show sumN (fun c => sumN (fun i => g (st c + i)) (st (c + 1) - st c)) c + sumN (fun i => g (st c + i)) (st (c + 1) - st c) = _
    rw [sum_ct h g c (by omega), ← sumN_cat, show st c + (st (c + 1) - st c) = st (c + 1) by omega]
/-- a choice that need not be decided -/
noncomputable def iteP (p : Prop) (a b : Int) : Int := @ite Int p (Classical.propDecidable p) a b
theorem iteP_t {p : Prop} {a b : Int} (h : p) : iteP p a b = a := by unfold iteP; rw [if_pos h]
theorem iteP_f {p : Prop} {a b : Int} (h : ¬ p) : iteP p a b = b := by unfold iteP; rw [if_neg h]
theorem iteP_c {p q : Prop} {a b : Int} (h : p ↔ q) : iteP p a b = iteP q a b := by
  by_cases g : p
  · rw [iteP_t g, iteP_t (h.mp g)]
  · rw [iteP_f g, iteP_f (fun k => g (h.mpr k))]
theorem sum_one {k : Nat} {v : Int} : ∀ {N : Nat}, k < N → sumN (fun q => iteP (q = k) v 0) N = v
  | 0, h => absurd h (Nat.not_lt_zero k)
  | N + 1, h => by
    show sumN (fun q => iteP (q = k) v 0) N + iteP (N = k) v 0 = v
    by_cases e : N = k
    · rw [iteP_t e, sumN_z (fun q hq => iteP_f (by omega))]
      omega
    · rw [iteP_f e, sum_one (N := N) (by omega)]
      omega
/-- a sum over chosen places of a list, each sent to a number of its own, is a sum over the numbers -/
theorem sel_sum {k : Nat → Nat} {u : Nat → Prop} {G : Nat → Int} {N : Nat} : ∀ T : Nat, (∀ j, j < T → u j → k j < N) → (∀ i j, i < T → j < T → u i → u j → k i = k j → i = j) → sumN (fun j => iteP (u j) (G (k j)) 0) T = sumN (fun q => iteP (∃ j, j < T ∧ u j ∧ k j = q) (G q) 0) N
  | 0, _, _ => (sumN_z (fun q _ => iteP_f (fun ⟨j, h, _⟩ => absurd h (Nat.not_lt_zero j)))).symm
  | T + 1, h1, h2 => by
    have ih := sel_sum (G := G) T (fun j hj => h1 j (by omega)) (fun i j hi hj => h2 i j (by omega) (by omega))
    show sumN (fun j => iteP (u j) (G (k j)) 0) T + iteP (u T) (G (k T)) 0 = _
    rw [ih]
    by_cases hu : u T
    · rw [iteP_t hu, ← sum_one (v := G (k T)) (h1 T (by omega) hu), ← sumN_add]
      refine sumN_congr fun q hq => ?_
      by_cases e : q = k T
      · rw [iteP_t (p := q = k T) e, iteP_f (p := ∃ j, j < T ∧ u j ∧ k j = q) (fun ⟨j, j1, j2, j3⟩ => by have := h2 j T (by omega) (by omega) j2 hu (by rw [j3, e]); omega), iteP_t (p := ∃ j, j < T + 1 ∧ u j ∧ k j = q) ⟨T, by omega, hu, e.symm⟩, e]
        omega
      · rw [iteP_f (p := q = k T) e, Int.add_zero]
        exact iteP_c ⟨fun ⟨j, j1, j2⟩ => ⟨j, by omega, j2⟩, fun ⟨j, j1, j2, j3⟩ => by
          by_cases g : j = T
          · exact absurd (by rw [← j3, g]) e
          · exact ⟨j, by omega, j2, j3⟩⟩
    · rw [iteP_f hu, Int.add_zero]
      refine sumN_congr fun q hq => iteP_c ⟨fun ⟨j, j1, j2⟩ => ⟨j, by omega, j2⟩, fun ⟨j, j1, j2, j3⟩ => ?_⟩
      by_cases g : j = T
      · rw [g] at j2; exact absurd j2 hu
      · exact ⟨j, by omega, j2, j3⟩
theorem cP_sum (p : Nat → Prop) : ∀ n, (cP p n : Int) = sumN (fun q => iteP (p q) 1 0) n
  | 0 => rfl
  | n + 1 => by
    show (cP p (n + 1) : Int) = sumN (fun q => iteP (p q) 1 0) n + iteP (p n) 1 0
    by_cases h : p n
    · rw [cP_y h, iteP_t h, ← cP_sum p n]; rfl
    · rw [cP_n h, iteP_f h, ← cP_sum p n]; omega
theorem cntB_sum (b : Nat → Bool) : ∀ n, (cntB b n : Int) = sumN (fun q => b2i (b q)) n
  | 0 => rfl
  | n + 1 => by
    show ((cntB b n + (bif b n then 1 else 0) : Nat) : Int) = sumN (fun q => b2i (b q)) n + b2i (b n)
    rw [← cntB_sum b n]
    cases b n
    · exact (Int.add_zero _).symm
    · rfl
theorem cntL_sum (P : Int → Int → Bool) (n : Nat) : ∀ m, (cntL P n m : Int) = sumN (fun y => sumN (fun x => b2i (P x y)) n) m
  | 0 => rfl
  | m + 1 => by
    show ((cntL P n m + cntB (fun x => P x m) n : Nat) : Int) = sumN (fun y => sumN (fun x => b2i (P x y)) n) m + sumN (fun x => b2i (P x m)) n
    rw [← cntL_sum P n m, ← cntB_sum]
    rfl
theorem sum_flat (g : Nat → Int) (w : Nat) : ∀ m, sumN g (w * m) = sumN (fun y => sumN (fun x => g (w * y + x)) w) m
  | 0 => rfl
  | m + 1 => by
    show sumN g (w * (m + 1)) = sumN (fun y => sumN (fun x => g (w * y + x)) w) m + sumN (fun x => g (w * m + x)) w
    rw [Nat.mul_add, Nat.mul_one, sumN_cat, sum_flat g w m]
/-- by parts -/
theorem abel (a : Int → Int) : ∀ n : Nat, sumN (fun x => (x : Int) * (a x - a (x - 1))) (n + 1) = n * a n - sumN (fun x => a x) n
  | 0 => by
    show 0 + ((0 : Nat) : Int) * (a ((0 : Nat) : Int) - a (((0 : Nat) : Int) - 1)) = ((0 : Nat) : Int) * a ((0 : Nat) : Int) - 0
    simp
  | n + 1 => by
    show sumN (fun x => (x : Int) * (a x - a (x - 1))) (n + 1) + ((n + 1 : Nat) : Int) * (a ((n + 1 : Nat) : Int) - a (((n + 1 : Nat) : Int) - 1)) = ((n + 1 : Nat) : Int) * a ((n + 1 : Nat) : Int) - (sumN (fun x => a x) n + a n)
    rw [abel a n, show ((n + 1 : Nat) : Int) - 1 = n by omega, Int.mul_sub, show ((n + 1 : Nat) : Int) * a n = n * a n + a n by rw [Int.natCast_add, Int.add_mul]; simp]
    omega
/-! areas by corners -/
/-- what a corner counts -/
def dsg (P : Int → Int → Bool) (x y : Int) : Int := (b2i (P x y) - b2i (P (x - 1) y)) - (b2i (P x (y - 1)) - b2i (P (x - 1) (y - 1)))
theorem dsg_b {P : Int → Int → Bool} {x y : Int} (h : bn P x y = true) : (lvd P x y % 2 = 0 → dsg P x y = 1) ∧ (lvd P x y % 2 ≠ 0 → dsg P x y = -1) := by
  unfold bn at h
  unfold lvd lvV dsg
  revert h
  cases P (x - 1) (y - 1) <;> cases P x (y - 1) <;> cases P (x - 1) y <;> cases P x y <;> simp [b2i]
theorem dsg_n {P : Int → Int → Bool} (hD : NoD P) {x y : Int} (h : bn P x y = false) : dsg P x y = 0 := by
  have hq := hD x y
  unfold bn at h
  unfold dsg
  revert h hq
  cases P (x - 1) (y - 1) <;> cases P x (y - 1) <;> cases P (x - 1) y <;> cases P x y <;> simp [b2i]
theorem grid_area {P : Int → Int → Bool} (hg : InG P) : sumN (fun y => sumN (fun x => dsg P x y * ((x : Int) * y)) 49) 49 = (cntL P 48 48 : Int) := by
  have out : ∀ x y : Int, ¬ (0 ≤ x ∧ x < 48 ∧ 0 ≤ y ∧ y < 48) → b2i (P x y) = 0 := fun x y h => b2i_0.mpr (by
    cases e : P x y with
    | false => rfl
    | true => exact absurd (hg x y e) h)
  have row : ∀ y : Int, sumN (fun x => (x : Int) * (b2i (P x y) - b2i (P ((x : Int) - 1) y))) 49 = - sumN (fun x => b2i (P x y)) 48 := by
    intro y
    have := abel (fun x => b2i (P x y)) 48
    rw [this, out ((48 : Nat) : Int) y (by omega)]
    omega
  have hr : ∀ y : Nat, sumN (fun x => dsg P x y * ((x : Int) * y)) 49 = (y : Int) * ((- sumN (fun x => b2i (P x (y : Int))) 48) - (- sumN (fun x => b2i (P x ((y : Int) - 1))) 48)) := by
    intro y
    rw [← row y, ← row ((y : Int) - 1), show sumN (fun x => (x : Int) * (b2i (P x y) - b2i (P ((x : Int) - 1) y))) 49 - sumN (fun x => (x : Int) * (b2i (P x ((y : Int) - 1)) - b2i (P ((x : Int) - 1) ((y : Int) - 1)))) 49 = sumN (fun x => (x : Int) * (b2i (P x y) - b2i (P ((x : Int) - 1) y)) + (-1) * ((x : Int) * (b2i (P x ((y : Int) - 1)) - b2i (P ((x : Int) - 1) ((y : Int) - 1))))) 49 from by rw [sumN_add, sumN_mulc]; omega, ← sumN_mulc]
    refine sumN_congr fun x _ => ?_
    unfold dsg
    generalize b2i (P x y) - b2i (P ((x : Int) - 1) y) = u
    generalize b2i (P x ((y : Int) - 1)) - b2i (P ((x : Int) - 1) ((y : Int) - 1)) = v
    rw [show (x : Int) * u + (-1) * ((x : Int) * v) = (u - v) * x by rw [Int.sub_mul, Int.mul_comm u, Int.mul_comm v]; omega, Int.mul_comm (y : Int), Int.mul_assoc]
  rw [sumN_congr (fun y _ => hr y), abel (fun y => - sumN (fun x => b2i (P x y)) 48) 48, sumN_z (g := fun x => b2i (P (x : Int) ((48 : Nat) : Int))) (fun x _ => out x _ (by omega)), cntL_sum]
  rw [show sumN (fun x => - sumN (fun x_1 => b2i (P x_1 (x : Int))) 48) 48 = sumN (fun x => (-1) * sumN (fun x_1 => b2i (P x_1 (x : Int))) 48) 48 from sumN_congr fun _ _ => by omega, sumN_mulc]
  omega
/-- the corners of all contours count the cells -/
theorem list_area {P : Int → Int → Bool} (hg : InG P) (hD : NoD P) {n : Nat} {st : Nat → Nat} {xs ys : Nat → Int} (h : Cf P n st xs ys) : sumN (fun j => dsg P (xs j) (ys j) * (xs j * ys j)) (st n) = (cntL P 48 48 : Int) := by
  have hb := fun j hj => bn_in hg (h.1.bend (i := j) hj)
  have hk : ∀ j, j < st n → xs j = (((49 * ys j + xs j).toNat % 49 : Nat) : Int) ∧ ys j = (((49 * ys j + xs j).toNat / 49 : Nat) : Int) := fun j hj => by
    have := hb j hj
    omega
  have e := sel_sum (k := fun j => (49 * ys j + xs j).toNat) (u := fun _ => True) (G := fun q => dsg P ((q % 49 : Nat) : Int) ((q / 49 : Nat) : Int) * (((q % 49 : Nat) : Int) * ((q / 49 : Nat) : Int))) (N := 49 * 49) (st n) (fun j hj _ => by have := hb j hj; omega) (fun i j hi hj _ _ hq => by
    have h1 := hb i hi
    have h2 := hb j hj
    exact h.1.2.2 i j hi hj (by omega) (by omega))
  have e1 : sumN (fun j => dsg P (xs j) (ys j) * (xs j * ys j)) (st n) = sumN (fun j => iteP True (dsg P (((49 * ys j + xs j).toNat % 49 : Nat) : Int) (((49 * ys j + xs j).toNat / 49 : Nat) : Int) * ((((49 * ys j + xs j).toNat % 49 : Nat) : Int) * (((49 * ys j + xs j).toNat / 49 : Nat) : Int))) 0) (st n) := sumN_congr fun j hj => by
    rw [iteP_t trivial, ← (hk j hj).1, ← (hk j hj).2]
  rw [e1, e, sum_flat, ← grid_area hg]
  refine sumN_congr fun y hy => sumN_congr fun x hx => ?_
  have m1 : (49 * y + x) % 49 = x := by omega
  have m2 : (49 * y + x) / 49 = y := by omega
  rw [m1, m2]
  by_cases g : ∃ j, j < st n ∧ True ∧ (49 * ys j + xs j).toNat = 49 * y + x
  · rw [iteP_t g]
  · rw [iteP_f g]
    cases hbn : bn P x y with
    | true =>
      obtain ⟨j, j1, j2, j3⟩ := h.2 x y hbn
      exact absurd ⟨j, j1, trivial, by rw [j2, j3]; omega⟩ g
    | false => rw [dsg_n hD hbn, Int.zero_mul]
section PG2
variable {P : Int → Int → Bool} {n : Nat} {st : Nat → Nat} {xs ys : Nat → Int} {ln : Nat → Nat}
/-- twice what a contour encloses -/
theorem Ctl.dbl (h : Ctl P n st xs ys ln) {c m : Nat} (hc : c < n) (hm : st (c + 1) = st c + m) : sumN (fun i => xs (ixc (st c) m i) * ys (ixc (st c) m (i + 1)) - xs (ixc (st c) m (i + 1)) * ys (ixc (st c) m i)) m = 2 * sumN (fun i => dsg P (xs (st c + i)) (ys (st c + i)) * (xs (st c + i) * ys (st c + i))) m := by
  have hi2 := h.in_ hc
  have em : ixc (st c) m m = st c := by have := ixc_m (a := st c) (m := m) (i := 0); rwa [Nat.add_zero, Nat.add_zero] at this
  have e0 : ixc (st c) m 0 = st c := ixc_lt (by omega)
  have one : ∀ i, i < m → xs (ixc (st c) m i) * ys (ixc (st c) m (i + 1)) - xs (ixc (st c) m (i + 1)) * ys (ixc (st c) m i) = dsg P (xs (ixc (st c) m i)) (ys (ixc (st c) m i)) * (xs (ixc (st c) m i) * ys (ixc (st c) m i)) + dsg P (xs (ixc (st c) m (i + 1))) (ys (ixc (st c) m (i + 1))) * (xs (ixc (st c) m (i + 1)) * ys (ixc (st c) m (i + 1))) := by
    intro i hi
    have l1 := h.lt hc hm (i := i) (by omega)
    have l2 := h.lt hc hm (i := i + 1) (by omega)
    have b1 := h.2.2.1.bend l1.2.2
    have b2 := h.2.2.1.bend l2.2.2
    have t := h.tn hc hm hi
    have s := h.sd hc hm hi
    have d1 := dsg_b b1
    have d2 := dsg_b b2
    unfold Sd at s
    simp only at s
    have par : lvd P (xs (ixc (st c) m (i + 1))) (ys (ixc (st c) m (i + 1))) % 2 ≠ lvd P (xs (ixc (st c) m i)) (ys (ixc (st c) m i)) % 2 := by
      by_cases g : four P (xs (ixc (st c) m (i + 1))) (ys (ixc (st c) m (i + 1))) = 1
      · have := t.1 g; omega
      · have := t.2 g; omega
    rcases s with ⟨a, -, b⟩ | ⟨a, b, -⟩ | ⟨a, -, b⟩ | ⟨a, b, -⟩
    · rw [d1.1 (by omega), d2.2 (by omega), b]; omega
    · rw [d1.2 (by omega), d2.1 (by omega), b]; omega
    · rw [d1.1 (by omega), d2.2 (by omega), b]; omega
    · rw [d1.2 (by omega), d2.1 (by omega), b]; omega
  rw [sumN_congr one, sumN_add]
  have sh := sumN_sh (fun i => dsg P (xs (ixc (st c) m i)) (ys (ixc (st c) m i)) * (xs (ixc (st c) m i) * ys (ixc (st c) m i))) m
  rw [em, e0] at sh
  rw [sh]
  have e2 : sumN (fun i => dsg P (xs (ixc (st c) m i)) (ys (ixc (st c) m i)) * (xs (ixc (st c) m i) * ys (ixc (st c) m i))) m = sumN (fun i => dsg P (xs (st c + i)) (ys (st c + i)) * (xs (st c + i) * ys (st c + i))) m := sumN_congr fun i hi => by rw [ixc_lt hi]
  rw [e2]
  omega
end PG2

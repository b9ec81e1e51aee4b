/-! what the answers have to do with one another: sizes, heights, the empty region -/
/-- what holds of a region's roof, whatever the machine -/
def RF (f : Nat → Int) : Prop := IsN f (nP f) ∧ Vok (lay f 1) ∧ ∀ p, p < nP f → Vok (lay f (2 * p + 1))
theorem rf_of {M : Mm} {f : Nat → Int} (h : FrC M f (nP f)) : RF f := ⟨h.1, h.2.2.2.2.1, fun p hp => (h.2.2.1 p hp).2.ok⟩
theorem RF.n {f : Nat → Int} (h : RF f) : nP f ≤ 12 := h.1.le
theorem b2i_sp {p q : Bool} (h : q = true → p = true) : b2i p = b2i q + b2i (p && !q) := by
  cases p <;> cases q <;> first | rfl | exact absurd (h rfl) (by decide)
theorem cntL_split {P P' : Int → Int → Bool} {n m : Nat} (h : ∀ x y : Nat, x < n → y < m → P' x y = true → P x y = true) : (cntL P n m : Int) = cntL P' n m + cntL (fun x y => P x y && !P' x y) n m := by
  rw [cntL_sum, cntL_sum, cntL_sum, ← sumN_add]
  refine sumN_congr fun y hy => ?_
  rw [← sumN_add]
  exact sumN_congr fun x hx => b2i_sp (h x y hx hy)
theorem lc_le (f : Nat → Int) (d : Nat) : lcnt f (d + 1) ≤ lcnt f d := by
  have := cntL_split (P := lay f d) (P' := lay f (d + 1)) (n := 48) (m := 48) fun x y _ _ h => lay_mono h
  unfold lcnt
  omega
theorem hay_mono {f : Nat → Int} {k : Nat} {x y : Int} (h : hay f (k + 1) x y = true) : hay f k x y = true := by
  have := hay_s.mp h 0 0 (by omega) (by omega) (by omega) (by omega)
  rwa [Int.add_zero, Int.add_zero] at this
theorem hc_le (f : Nat → Int) (k : Nat) : hcnt f (k + 1) ≤ hcnt f k := by
  have := cntL_split (P := hay f k) (P' := hay f (k + 1)) (n := 24) (m := 24) fun x y _ _ h => hay_mono h
  unfold hcnt
  omega
theorem hc_lt {f : Nat → Int} {k : Nat} (h : 0 < hcnt f k) : hcnt f (k + 1) < hcnt f k := by
  have sp := cntL_split (P := hay f k) (P' := hay f (k + 1)) (n := 24) (m := 24) fun x y _ _ h => hay_mono h
  have hd : 0 < cntL (fun x y => hay f k x y && !hay f (k + 1) x y) 24 24 := by
    refine Nat.pos_of_ne_zero fun h0 => ?_
    obtain ⟨x, y, hx, hy, hp⟩ := cntL_pos h
    have key : ∀ j : Nat, hay f k ((x : Int) - j) y = true := by
      intro j
      induction j with
      | zero => rw [show (x : Int) - ((0 : Nat) : Int) = x by omega]; exact hp
      | succ j ih =>
        have r := hay_in ih
        have up : hay f (k + 1) ((x : Int) - j) y = true := by
          cases e : hay f (k + 1) ((x : Int) - j) y with
          | true => rfl
          | false =>
            have := cntL_one (P := fun x y => hay f k x y && !hay f (k + 1) x y) (n := 24) (m := 24) (x := ((x : Int) - j).toNat) (y := y) (by omega) hy (by
              show (hay f k ((((x : Int) - j).toNat : Nat) : Int) y && !hay f (k + 1) ((((x : Int) - j).toNat : Nat) : Int) y) = true
              rw [show ((((x : Int) - j).toNat : Nat) : Int) = (x : Int) - j by omega, ih, e]; rfl)
            omega
        have := hay_s.mp up (-1) 0 (by omega) (by omega) (by omega) (by omega)
        rw [Int.add_zero] at this
        rw [show (x : Int) - ((j + 1 : Nat) : Int) = (x : Int) - j + -1 by omega]
        exact this
    have := hay_in (key 25)
    omega
  unfold hcnt at *
  omega
theorem hc_24 (f : Nat → Int) : hcnt f 24 = 0 := by
  have h := lcnt_hcnt f 24
  rw [lcnt_24 f (by omega)] at h
  omega
/-- the cells among the first n -/
def clN (f : Nat → Int) (n : Nat) : Int := sumN (fun c => b2i (cel f ((c % 12 : Nat) : Int) ((c / 12 : Nat) : Int))) n
theorem clN_s (f : Nat → Int) (n : Nat) : clN f (n + 1) = clN f n + b2i (cel f ((n % 12 : Nat) : Int) ((n / 12 : Nat) : Int)) := rfl
theorem clN_b (f : Nat → Int) : ∀ n, 0 ≤ clN f n ∧ clN f n ≤ n
  | 0 => ⟨Int.le_refl 0, Int.le_refl 0⟩
  | n + 1 => by
    have ih := clN_b f n
    have := b2i_c (cel f ((n % 12 : Nat) : Int) ((n / 12 : Nat) : Int))
    rw [clN_s]
    omega
theorem clN_g (f : Nat → Int) : clN f 144 = sumN (fun y => sumN (fun x => b2i (cel f x y)) 12) 12 := by
  have h := sum_flat (fun c => b2i (cel f ((c % 12 : Nat) : Int) ((c / 12 : Nat) : Int))) 12 12
  show sumN _ (12 * 12) = _
  rw [h]
  refine sumN_congr fun y hy => sumN_congr fun x hx => ?_
  show b2i (cel f (((12 * y + x) % 12 : Nat) : Int) (((12 * y + x) / 12 : Nat) : Int)) = _
  rw [show (12 * y + x) % 12 = x by omega, show (12 * y + x) / 12 = y by omega]
theorem clN_size (f : Nat → Int) : clN f 144 = sizeV f := by
  rw [clN_g]
  refine sumN_congr fun y hy => ?_
  unfold popV
  rw [cntB_sum]
  refine sumN_congr fun x hx => ?_
  show b2i (decide (0 ≤ (x : Int) ∧ (x : Int) < 12 ∧ 0 ≤ (y : Int) ∧ (y : Int) < 12) && bZ (f (y : Int).toNat) (x : Int).toNat) = _
  rw [decide_eq_true (by omega), Int.toNat_natCast, Int.toNat_natCast]
  rfl
theorem sum_dbl (g : Int → Int) : ∀ n : Nat, sumN (fun i => g ((i : Int) / 2)) (2 * n) = 2 * sumN (fun i => g i) n
  | 0 => rfl
  | n + 1 => by
    have ih := sum_dbl g n
    show sumN (fun i => g ((i : Int) / 2)) (2 * n) + g (((2 * n : Nat) : Int) / 2) + g (((2 * n + 1 : Nat) : Int) / 2) = 2 * (sumN (fun i => g i) n + g n)
    rw [ih, show ((2 * n : Nat) : Int) / 2 = n by omega, show ((2 * n + 1 : Nat) : Int) / 2 = n by omega]
    omega
theorem clN_hc (f : Nat → Int) : (hcnt f 0 : Int) = 4 * clN f 144 := by
  unfold hcnt
  rw [cntL_sum, clN_g]
  have e1 : sumN (fun y => sumN (fun x => b2i (hay f 0 x y)) 24) 24 = sumN (fun y => (fun t : Int => 2 * sumN (fun x => b2i (cel f x t)) 12) ((y : Int) / 2)) (2 * 12) := sumN_congr fun y hy => sum_dbl (fun t => b2i (cel f t ((y : Int) / 2))) 12
  rw [e1, sum_dbl (fun t : Int => 2 * sumN (fun x => b2i (cel f x t)) 12) 12, sumN_mulc]
  omega
theorem ht_1 {f : Nat → Int} {x y : Nat} {a : Int} (h : IsH f (8 * (x : Int) + 1) (8 * (y : Int) + 3) a) (hx : x < 12) (hy : y < 12) : (cel f x y = true → 0 < a) ∧ (cel f x y = false → a ≤ 0) := by
  constructor
  · intro e
    obtain ⟨cx, cy, r, e2, v⟩ := h.2
    have g1 := gapV_s (8 * (x : Int) + 1) (8 * cx)
    have g2 := gapV_s (8 * (y : Int) + 3) (8 * cy)
    have g3 := gg_s (8 * (x : Int) + 1) (8 * (y : Int) + 3) cx cy
    by_cases q : cx = x ∧ cy = y
    · rw [q.1, q.2, e] at e2; cases e2
    · omega
  · intro e
    have h1 := h.1 x y (by omega) (by omega) (by omega) (by omega) e
    have g1 := gapV_s (8 * (x : Int) + 1) (8 * (x : Int))
    have g2 := gapV_s (8 * (y : Int) + 3) (8 * (y : Int))
    have g3 := gg_s (8 * (x : Int) + 1) (8 * (y : Int) + 3) x y
    omega
theorem ht_4 {f : Nat → Int} {x y : Nat} {a : Int} (h : IsH f (8 * (x : Int) + 4) (8 * (y : Int) + 4) a) (hx : x < 12) (hy : y < 12) : (cel f x y = true → 4 ≤ a) ∧ (cel f x y = false → a < 4) := by
  constructor
  · intro e
    obtain ⟨cx, cy, r, e2, v⟩ := h.2
    have g1 := gapV_s (8 * (x : Int) + 4) (8 * cx)
    have g2 := gapV_s (8 * (y : Int) + 4) (8 * cy)
    have g3 := gg_s (8 * (x : Int) + 4) (8 * (y : Int) + 4) cx cy
    by_cases q : cx = x ∧ cy = y
    · rw [q.1, q.2, e] at e2; cases e2
    · omega
  · intro e
    have h1 := h.1 x y (by omega) (by omega) (by omega) (by omega) e
    have g1 := gapV_s (8 * (x : Int) + 4) (8 * (x : Int))
    have g2 := gapV_s (8 * (y : Int) + 4) (8 * (y : Int))
    have g3 := gg_s (8 * (x : Int) + 4) (8 * (y : Int) + 4) x y
    omega
/-! the empty region -/
def z0 : Nat → Int := fun _ => 0
theorem bZ_00 (n : Nat) : bZ 0 n = false := by
  unfold bZ
  show (0#32).getLsbD n = false
  exact BitVec.getLsbD_zero
theorem cel_0 (x y : Int) : cel z0 x y = false := by
  unfold cel z0
  rw [bZ_00, Bool.and_false]
theorem lay_00 (d : Nat) (x y : Int) : lay z0 d x y = false := by
  cases e : lay z0 d x y with
  | false => rfl
  | true =>
    have := lay_w.mp e 0 0 (by omega) (by omega) (by omega) (by omega)
    rw [cel_0] at this
    cases this
theorem lc_0 (d : Nat) : lcnt z0 d = 0 := lcnt_0.mpr fun x y => lay_00 d x y
theorem nP_0 : nP z0 = 0 := (nP_eq (n := 0) ⟨fun k h => absurd h (Nat.not_lt_zero k), lc_0 _⟩).symm
theorem vE_0 (h : RF z0) : vE (lay z0 1) = 0 := by
  refine Classical.byContradiction fun g => ?_
  have hb := h.2.1.1.1.bend (i := 0) (show 0 < vE (lay z0 1) by omega)
  unfold bn at hb
  rw [lay_00, lay_00, lay_00, lay_00] at hb
  cases hb
theorem hc_0 (k : Nat) : hcnt z0 k = 0 := by
  have := lcnt_hcnt z0 k
  rw [lc_0] at this
  omega
theorem cor_0 : corN (cel z0) = 0 := by
  refine Nat.eq_zero_of_not_pos fun h => ?_
  obtain ⟨x, y, -, -, g⟩ := cntL_pos h
  unfold corB at g
  rw [cel_0, cel_0, cel_0, cel_0] at g
  cases g
theorem nc_0 (k : Nat) : nc z0 k = 0 := by
  refine Nat.eq_zero_of_not_pos fun h => ?_
  obtain ⟨q, -, g, -⟩ := cP_ex (p := FK z0 k) (n := 2304) (c := 0) h
  have g1 : lay z0 (2 * k + 1) ((q % 48 : Nat) : Int) ((q / 48 : Nat) : Int) = true := g.1
  rw [lay_00] at g1
  cases g1
theorem roots_0 : (roots (nc z0) (prK z0)).length = 0 := by
  unfold roots
  rw [nc_0]
  rfl
theorem size_0 : sizeV z0 = 0 := by
  rw [← clN_size]
  exact sumN_z fun c _ => by rw [cel_0]; rfl
theorem fc_0 : fcC z0 51 = -1 := by
  have h := sd_cel (f := z0) (x := 3) (y := 4) (by omega) (by omega)
  unfold fcC
  refine if_neg fun g => ?_
  have := h.mp (Nat.pos_of_ne_zero g)
  rw [cel_0] at this
  cases this
theorem xG_0 (h : RF z0) : xG (lay z0 1) = 0 := by
  unfold xG
  rw [vE_0 h]
  rfl

/-! cells of a phase as a graph; at most 72 components -/
def cp (P : Int → Int → Bool) (q : Nat) : Prop := P ((q % 48 : Nat) : Int) ((q / 48 : Nat) : Int) = true
def ad (a b : Nat) : Prop := a < 2304 ∧ b < 2304 ∧ ((a / 48 = b / 48 ∧ (a % 48 + 1 = b % 48 ∨ b % 48 + 1 = a % 48)) ∨ (a % 48 = b % 48 ∧ (a / 48 + 1 = b / 48 ∨ b / 48 + 1 = a / 48)))
theorem ad_sy (a b : Nat) (h : ad a b) : ad b a := by
  obtain ⟨h1, h2, h3⟩ := h
  exact ⟨h2, h1, by omega⟩
/-- cell x, y -/
def cid (x y : Int) : Nat := (48 * y + x).toNat
theorem cid_m {x y : Int} (hx : 0 ≤ x) (hx1 : x < 48) (hy : 0 ≤ y) : ((cid x y % 48 : Nat) : Int) = x := by
  unfold cid
  omega
theorem cid_d {x y : Int} (hx : 0 ≤ x) (hx1 : x < 48) (hy : 0 ≤ y) : ((cid x y / 48 : Nat) : Int) = y := by
  unfold cid
  omega
theorem cid_lt {x y : Int} (hx : 0 ≤ x) (hx1 : x < 48) (hy : 0 ≤ y) (hy1 : y < 48) : cid x y < 2304 := by
  unfold cid
  omega
theorem cid_self (q : Nat) : cid ((q % 48 : Nat) : Int) ((q / 48 : Nat) : Int) = q := by
  unfold cid
  omega
theorem cp_cid {P : Int → Int → Bool} {x y : Int} (hx : 0 ≤ x) (hx1 : x < 48) (hy : 0 ≤ y) : cp P (cid x y) ↔ P x y = true := by
  unfold cp
  rw [cid_m hx hx1 hy, cid_d hx hx1 hy]
def InG (P : Int → Int → Bool) : Prop := ∀ x y, P x y = true → 0 ≤ x ∧ x < 48 ∧ 0 ≤ y ∧ y < 48
theorem lay_g (f : Nat → Int) (d : Nat) : InG (lay f d) := fun x y h => by
  have := lay_in h
  omega
theorem ad_h {x y : Int} (hx : 0 ≤ x) (hx1 : x + 1 < 48) (hy : 0 ≤ y) (hy1 : y < 48) : ad (cid x y) (cid (x + 1) y) := by
  unfold ad cid
  omega
theorem ad_v {x y : Int} (hx : 0 ≤ x) (hx1 : x < 48) (hy : 0 ≤ y) (hy1 : y + 1 < 48) : ad (cid x y) (cid x (y + 1)) := by
  unfold ad cid
  omega
/-- along a row -/
theorem seg_h {P : Int → Int → Bool} (g : InG P) {y : Int} : ∀ (n : Nat) (x : Int), (∀ i : Int, x ≤ i → i ≤ x + n → P i y = true) → Cn (cp P) ad (cid x y) (cid (x + n) y)
  | 0, x, _ => by
    rw [show x + ((0 : Nat) : Int) = x by omega]
    exact Cn.rf _
  | n + 1, x, h => by
    have h1 := g _ _ (h x (by omega) (by omega))
    have h2 := g _ _ (h (x + n) (by omega) (by omega))
    have h3 := g _ _ (h (x + (n + 1 : Nat)) (by omega) (by omega))
    have k := seg_h g n x (fun i a b => h i a (by omega))
    have e : x + ((n + 1 : Nat) : Int) = x + n + 1 := by omega
    rw [e] at h3 ⊢
    refine k.st (ad_h (by omega) (by omega) (by omega) (by omega)) ((cp_cid (by omega) (by omega) (by omega)).mpr ?_)
    have := h (x + n + 1) (by omega) (by omega)
    exact this
theorem seg_v {P : Int → Int → Bool} (g : InG P) {x : Int} : ∀ (n : Nat) (y : Int), (∀ i : Int, y ≤ i → i ≤ y + n → P x i = true) → Cn (cp P) ad (cid x y) (cid x (y + n))
  | 0, y, _ => by
    rw [show y + ((0 : Nat) : Int) = y by omega]
    exact Cn.rf _
  | n + 1, y, h => by
    have h1 := g _ _ (h y (by omega) (by omega))
    have h2 := g _ _ (h (y + n) (by omega) (by omega))
    have h3 := g _ _ (h (y + (n + 1 : Nat)) (by omega) (by omega))
    have k := seg_v g n y (fun i a b => h i a (by omega))
    have e : y + ((n + 1 : Nat) : Int) = y + n + 1 := by omega
    rw [e] at h3 ⊢
    refine k.st (ad_v (by omega) (by omega) (by omega) (by omega)) ((cp_cid (by omega) (by omega) (by omega)).mpr ?_)
    have := h (y + n + 1) (by omega) (by omega)
    exact this
/-- between two places of a row, in either order -/
theorem row_cn {P : Int → Int → Bool} (g : InG P) {y a b : Int} (h : ∀ i : Int, (a ≤ i ∧ i ≤ b ∨ b ≤ i ∧ i ≤ a) → P i y = true) : Cn (cp P) ad (cid a y) (cid b y) := by
  rcases Int.le_total a b with k | k
  · have := seg_h g (y := y) (b - a).toNat a (fun i h1 h2 => h i (by omega))
    rwa [show a + ((b - a).toNat : Int) = b by omega] at this
  · have := seg_h g (y := y) (a - b).toNat b (fun i h1 h2 => h i (by omega))
    rw [show b + ((a - b).toNat : Int) = a by omega] at this
    have hb := h b (by omega)
    have hg := g _ _ hb
    exact this.sy ad_sy ((cp_cid (by omega) (by omega) (by omega)).mpr hb)
theorem col_cn {P : Int → Int → Bool} (g : InG P) {x a b : Int} (h : ∀ i : Int, (a ≤ i ∧ i ≤ b ∨ b ≤ i ∧ i ≤ a) → P x i = true) : Cn (cp P) ad (cid x a) (cid x b) := by
  rcases Int.le_total a b with k | k
  · have := seg_v g (x := x) (b - a).toNat a (fun i h1 h2 => h i (by omega))
    rwa [show a + ((b - a).toNat : Int) = b by omega] at this
  · have := seg_v g (x := x) (a - b).toNat b (fun i h1 h2 => h i (by omega))
    rw [show b + ((a - b).toNat : Int) = a by omega] at this
    have hb := h b (by omega)
    have hg := g _ _ hb
    exact this.sy ad_sy ((cp_cid (by omega) (by omega) (by omega)).mpr hb)
/-- as few as the places that they are sent to -/
theorem cP_pig {p : Nat → Prop} : ∀ (N m : Nat) (g : Nat → Nat), (∀ q, q < N → p q → g q < m) → (∀ q r, q < N → r < N → p q → p r → g q = g r → q = r) → cP p N ≤ m
  | 0, m, g, _, _ => Nat.zero_le m
  | N + 1, m, g, h1, h2 => by
    by_cases hp : p N
    · have hN := h1 N (Nat.lt_succ_self N) hp
      rw [cP_y hp]
      have ne : ∀ q, q < N → p q → g q ≠ g N := fun q hq hpq e => by
        have := h2 q N (by omega) (by omega) hpq hp e
        omega
      have key : cP p N ≤ m - 1 := by
        refine cP_pig N (m - 1) (fun q => if g q = m - 1 then g N else g q) (fun q hq hpq => ?_) (fun q r hq hr hpq hpr e => ?_)
        · have a1 := h1 q (by omega) hpq
          have a2 := ne q hq hpq
          show (if g q = m - 1 then g N else g q) < m - 1
          split <;> omega
        · have a2 := ne q hq hpq
          have a3 := ne r hr hpr
          refine h2 q r (by omega) (by omega) hpq hpr ?_
          replace e : (if g q = m - 1 then g N else g q) = (if g r = m - 1 then g N else g r) := e
          split at e <;> split at e <;> omega
      omega
    · rw [cP_n hp]
      exact cP_pig N m g (fun q hq => h1 q (by omega)) (fun q r hq hr => h2 q r (by omega) (by omega))
/-! phase k -/
abbrev PK (f : Nat → Int) (k : Nat) : Nat → Prop := cp (lay f (2 * k + 1))
/-- the window of a cell of phase k -/
theorem pk_w {f : Nat → Int} {k : Nat} {x y : Int} : lay f (2 * k + 1) x y = true ↔ ∀ u v : Int, (x - 2 * k - 1) / 4 ≤ u → u ≤ (x + 2 * k + 1) / 4 → (y - 2 * k - 1) / 4 ≤ v → v ≤ (y + 2 * k + 1) / 4 → cel f u v = true := by
  rw [lay_w]
  constructor
  · intro h u v h1 h2 h3 h4
    have hi : ∃ i : Int, -((2 * k + 1 : Nat) : Int) ≤ i ∧ i ≤ ((2 * k + 1 : Nat) : Int) ∧ (x + i) / 4 = u := by
      by_cases g : 4 * u < x - 2 * k - 1
      · exact ⟨-((2 * k + 1 : Nat) : Int), by omega, by omega, by omega⟩
      · exact ⟨4 * u - x, by omega, by omega, by omega⟩
    have hj : ∃ i : Int, -((2 * k + 1 : Nat) : Int) ≤ i ∧ i ≤ ((2 * k + 1 : Nat) : Int) ∧ (y + i) / 4 = v := by
      by_cases g : 4 * v < y - 2 * k - 1
      · exact ⟨-((2 * k + 1 : Nat) : Int), by omega, by omega, by omega⟩
      · exact ⟨4 * v - y, by omega, by omega, by omega⟩
    obtain ⟨i, i1, i2, i3⟩ := hi
    obtain ⟨j, j1, j2, j3⟩ := hj
    rw [← i3, ← j3]
    exact h i j i1 i2 j1 j2
  · intro h i j i1 i2 j1 j2
    exact h _ _ (by omega) (by omega) (by omega) (by omega)
/-- the middle of the unit cell in which a cell of the phase lies -/
def mid (k : Nat) (x : Int) : Int := 4 * ((x - 2 * k) / 4) + 2 * k + 1
theorem to_mid {f : Nat → Int} {k : Nat} {x y : Int} (h : lay f (2 * k + 1) x y = true) : Cn (PK f k) ad (cid x y) (cid (mid k x) (mid k y)) ∧ lay f (2 * k + 1) (mid k x) (mid k y) = true := by
  have h0 := pk_w.mp h
  have g := lay_g f (2 * k + 1)
  have a1 : ∀ i : Int, (x ≤ i ∧ i ≤ mid k x ∨ mid k x ≤ i ∧ i ≤ x) → lay f (2 * k + 1) i y = true := by
    intro i hi
    refine pk_w.mpr fun u v u1 u2 v1 v2 => h0 u v ?_ ?_ v1 v2
    · unfold mid at hi; omega
    · unfold mid at hi; omega
  have h1 := pk_w.mp (a1 (mid k x) (by omega))
  have a2 : ∀ i : Int, (y ≤ i ∧ i ≤ mid k y ∨ mid k y ≤ i ∧ i ≤ y) → lay f (2 * k + 1) (mid k x) i = true := by
    intro i hi
    refine pk_w.mpr fun u v u1 u2 v1 v2 => h1 u v u1 u2 ?_ ?_
    · unfold mid at hi; omega
    · unfold mid at hi; omega
  exact ⟨(row_cn g a1).tr (col_cn g a2), a2 _ (by omega)⟩
/-- two middles side by side -/
theorem mid_side {f : Nat → Int} {k : Nat} {u v : Int} (h1 : lay f (2 * k + 1) (4 * u + 2 * k + 1) v = true) (h2 : lay f (2 * k + 1) (4 * (u + 1) + 2 * k + 1) v = true) : Cn (PK f k) ad (cid (4 * u + 2 * k + 1) v) (cid (4 * (u + 1) + 2 * k + 1) v) := by
  refine row_cn (lay_g f _) fun i hi => pk_w.mpr fun a b a1 a2 b1 b2 => ?_
  by_cases g : a ≤ u + k
  · exact pk_w.mp h1 a b (by omega) (by omega) b1 b2
  · exact pk_w.mp h2 a b (by omega) (by omega) b1 b2
/-- the domino of a cell -/
def dom2 (k q : Nat) : Nat := (q % 48 - 2 * k) / 8 + 6 * ((q / 48 - 2 * k) / 4)
theorem mid_n {k n : Nat} (h : 2 * k ≤ n) : mid k (n : Int) = ((4 * ((n - 2 * k) / 4) + 2 * k + 1 : Nat) : Int) := by
  unfold mid
  omega
theorem dom_lt {a b : Nat} (ha : a < 48) (hb : b < 48) : a / 8 + 6 * (b / 4) < 72 := by
  have h1 : a / 8 ≤ 5 := by omega
  have h2 : b / 4 ≤ 11 := by omega
  omega
theorem dom_eq {a b c d : Nat} (ha : a < 48) (hc : c < 48) (e : a / 8 + 6 * (b / 4) = c / 8 + 6 * (d / 4)) : a / 8 = c / 8 ∧ b / 4 = d / 4 := by
  have h1 : a / 8 ≤ 5 := by omega
  have h2 : c / 8 ≤ 5 := by omega
  generalize a / 8 = A at *
  generalize c / 8 = C at *
  generalize b / 4 = B at *
  generalize d / 4 = D at *
  omega
/-- two middles in one domino -/
theorem dom_cn {f : Nat → Int} {k a b c d : Nat} (ha : 2 * k ≤ a) (hb : 2 * k ≤ b) (hc : 2 * k ≤ c) (hd : 2 * k ≤ d) (h1 : (a - 2 * k) / 8 = (c - 2 * k) / 8) (h2 : (b - 2 * k) / 4 = (d - 2 * k) / 4) (mq : lay f (2 * k + 1) (mid k a) (mid k b) = true) (mr : lay f (2 * k + 1) (mid k c) (mid k d) = true) : Cn (PK f k) ad (cid (mid k a) (mid k b)) (cid (mid k c) (mid k d)) := by
  have hy : mid k (b : Int) = mid k (d : Int) := by
    rw [mid_n hb, mid_n hd, h2]
  rw [← hy] at mr ⊢
  generalize hA : (a - 2 * k) / 4 = A at *
  generalize hC : (c - 2 * k) / 4 = C at *
  have hAC : A = C ∨ C = A + 1 ∨ A = C + 1 := by omega
  have ea : mid k (a : Int) = 4 * (A : Int) + 2 * k + 1 := by rw [mid_n ha, hA]; omega
  have ec : mid k (c : Int) = 4 * (C : Int) + 2 * k + 1 := by rw [mid_n hc, hC]; omega
  rw [ea] at mq ⊢
  rw [ec] at mr ⊢
  generalize mid k (b : Int) = v at *
  rcases hAC with h | h | h
  · subst h
    exact Cn.rf _
  · subst h
    exact mid_side mq mr
  · subst h
    have hin := lay_in mr
    exact (mid_side mr mq).sy ad_sy ((cp_cid (by omega) (by omega) (by omega)).mpr mr)
theorem nc_le (f : Nat → Int) (k : Nat) : cP (Fi (PK f k) ad) 2304 ≤ 72 := by
  refine cP_pig 2304 72 (dom2 k) (fun q hq hf => ?_) (fun q r hq hr hfq hfr e => ?_)
  · exact dom_lt (by omega) (by omega)
  · have hq1 : lay f (2 * k + 1) _ _ = true := hfq.1
    have hr1 : lay f (2 * k + 1) _ _ = true := hfr.1
    have iq := lay_in hq1
    have ir := lay_in hr1
    obtain ⟨cq, mq'⟩ := to_mid hq1
    obtain ⟨cr, mr⟩ := to_mid hr1
    rw [cid_self] at cq cr
    obtain ⟨e1, e2⟩ := dom_eq (by omega) (by omega) e
    have hcc := dom_cn (f := f) (by omega) (by omega) (by omega) (by omega) e1 e2 mq' mr
    have hqr : Cn (PK f k) ad q r := (cq.tr hcc).tr (cr.sy ad_sy hfr.1)
    exact fi_un ad_sy hfq hfr hqr (Cn.rf r)
/-- the canonical number of a cell's component -/
noncomputable def lb (P : Nat → Prop) (q : Nat) : Int := @dite Int (P q) (Classical.propDecidable _) (fun h => (cP (Fi P ad) (Classical.choose (fi_ex (A := ad) h)) : Int)) (fun _ => -1)
theorem lb_n {P : Nat → Prop} {q : Nat} (h : ¬ P q) : lb P q = -1 := by
  unfold lb
  rw [dif_neg h]
theorem lb_y {P : Nat → Prop} {q q0 : Nat} (h : Fi P ad q0) (g : Cn P ad q0 q) : lb P q = (cP (Fi P ad) q0 : Int) := by
  have hp := g.pp h.1
  unfold lb
  rw [dif_pos hp]
  have k := Classical.choose_spec (fi_ex (A := ad) hp)
  rw [fi_un ad_sy k.2.1 h k.2.2 g]
theorem lb_0 {P : Nat → Prop} {q : Nat} (h : P q) : 0 ≤ lb P q := by
  obtain ⟨q0, -, h1, h2⟩ := fi_ex (A := ad) h
  rw [lb_y h1 h2]
  omega
theorem lb_lt {P : Nat → Prop} {q : Nat} (hq : q < 2304) : lb P q < (cP (Fi P ad) 2304 : Int) := by
  by_cases h : P q
  · obtain ⟨q0, h0, h1, h2⟩ := fi_ex (A := ad) h
    rw [lb_y h1 h2]
    have := cP_lt (p := Fi P ad) (show q0 < 2304 by omega) h1
    omega
  · rw [lb_n h]
    omega

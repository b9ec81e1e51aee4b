/-! the region's cells, its layers of quarter cells -/
theorem b2i_t : b2i true = 1 := rfl
theorem b2i_f : b2i false = 0 := rfl
theorem b2i_0 {b : Bool} : b2i b = 0 ↔ b = false := by cases b <;> simp [b2i]
theorem b2i_n {b : Bool} : b2i b ≠ 0 ↔ b = true := by cases b <;> simp [b2i]
def cel (f : Nat → Int) (x y : Int) : Bool := decide (0 ≤ x ∧ x < 12 ∧ 0 ≤ y ∧ y < 12) && bZ (f y.toNat) x.toNat
theorem cel_in {f : Nat → Int} {x y : Int} (h : cel f x y = true) : 0 ≤ x ∧ x < 12 ∧ 0 ≤ y ∧ y < 12 := by
  unfold cel at h
  rw [Bool.and_eq_true] at h
  exact of_decide_eq_true h.1
theorem cel_nat (f : Nat → Int) {x y : Nat} (hx : x < 12) (hy : y < 12) : cel f x y = bZ (f y) x := by
  unfold cel
  rw [decide_eq_true (by omega), Bool.true_and, Int.toNat_natCast, Int.toNat_natCast]
theorem cel_out {f : Nat → Int} {x y : Int} (h : ¬ (0 ≤ x ∧ x < 12 ∧ 0 ≤ y ∧ y < 12)) : cel f x y = false := by
  unfold cel
  rw [decide_eq_false h, Bool.false_and]
theorem bit_row {f : Nat → Int} (hR : R12 f) {x y : Int} (h : 0 ≤ x ∧ x < 12 ∧ 0 ≤ y ∧ y < 12) : ian (isr (f y.toNat) x) 1 = if cel f x y then 1 else 0 := by
  obtain ⟨n, rfl⟩ : ∃ n : Nat, x = n := ⟨x.toNat, by omega⟩
  have h1 := hR y.toNat (by omega)
  rw [bit_i (by omega) h1.1 (by omega)]
  unfold cel
  rw [decide_eq_true h, Bool.true_and, Int.toNat_natCast]
theorem hasV_cel {f : Nat → Int} (hR : R12 f) (x y : Int) : hasV f x y = b2i (cel f x y) := by
  unfold hasV
  by_cases h : 0 ≤ x ∧ x < 12 ∧ 0 ≤ y ∧ y < 12
  · rw [if_pos h, bit_row hR h]
    cases cel f x y <;> rfl
  · rw [if_neg h, cel_out h]
    rfl
/-- two texts of rows with the same cells -/
theorem cel_congr {f g : Nat → Int} (h : ∀ y, y < 12 → f y = g y) (x y : Int) : cel f x y = cel g x y := by
  by_cases h1 : 0 ≤ x ∧ x < 12 ∧ 0 ≤ y ∧ y < 12
  · unfold cel
    rw [h y.toNat (by omega)]
  · rw [cel_out h1, cel_out h1]
/-- layers: quarter cells; in layer d + 1 those all of whose neighbours are in layer d -/
def lay (f : Nat → Int) : Nat → Int → Int → Bool
  | 0, x, y => cel f (x / 4) (y / 4)
  | d + 1, x, y => (((lay f d x (y - 1) && lay f d (x - 1) (y - 1)) && lay f d (x + 1) (y - 1)) && ((lay f d x y && lay f d (x - 1) y) && lay f d (x + 1) y)) && ((lay f d x (y + 1) && lay f d (x - 1) (y + 1)) && lay f d (x + 1) (y + 1))
theorem lay_0 (f : Nat → Int) (x y : Int) : lay f 0 x y = cel f (x / 4) (y / 4) := rfl
theorem lay_s {f : Nat → Int} {d : Nat} {x y : Int} : lay f (d + 1) x y = true ↔ ∀ a b : Int, -1 ≤ a → a ≤ 1 → -1 ≤ b → b ≤ 1 → lay f d (x + a) (y + b) = true := by
  simp only [lay, Bool.and_eq_true]
  constructor
  · rintro ⟨⟨⟨⟨h1, h2⟩, h3⟩, ⟨h4, h5⟩, h6⟩, ⟨h7, h8⟩, h9⟩ a b ha ha' hb hb'
    have ea : a = -1 ∨ a = 0 ∨ a = 1 := by omega
    have eb : b = -1 ∨ b = 0 ∨ b = 1 := by omega
    rcases ea with rfl | rfl | rfl <;> rcases eb with rfl | rfl | rfl <;> (try simp only [Int.add_zero]) <;> assumption
  · intro h
    have e1 : x - 1 = x + -1 := rfl
    have e2 : y - 1 = y + -1 := rfl
    have z1 : x = x + 0 := (Int.add_zero x).symm
    have z2 : y = y + 0 := (Int.add_zero y).symm
    refine ⟨⟨⟨⟨?_, ?_⟩, ?_⟩, ⟨?_, ?_⟩, ?_⟩, ⟨?_, ?_⟩, ?_⟩
    · have := h 0 (-1) (by omega) (by omega) (by omega) (by omega); rwa [Int.add_zero] at this
    · exact h (-1) (-1) (by omega) (by omega) (by omega) (by omega)
    · exact h 1 (-1) (by omega) (by omega) (by omega) (by omega)
    · have := h 0 0 (by omega) (by omega) (by omega) (by omega); rwa [Int.add_zero, Int.add_zero] at this
    · have := h (-1) 0 (by omega) (by omega) (by omega) (by omega); rwa [Int.add_zero] at this
    · have := h 1 0 (by omega) (by omega) (by omega) (by omega); rwa [Int.add_zero] at this
    · have := h 0 1 (by omega) (by omega) (by omega) (by omega); rwa [Int.add_zero] at this
    · exact h (-1) 1 (by omega) (by omega) (by omega) (by omega)
    · exact h 1 1 (by omega) (by omega) (by omega) (by omega)
/-- a layer by its window -/
theorem lay_w {f : Nat → Int} : ∀ {d : Nat} {x y : Int}, lay f d x y = true ↔ ∀ i j : Int, -d ≤ i → i ≤ d → -d ≤ j → j ≤ d → cel f ((x + i) / 4) ((y + j) / 4) = true := by
  intro d
  induction d with
  | zero =>
    intro x y
    constructor
    · intro h i j h1 h2 h3 h4
      have ei : i = 0 := by omega
      have ej : j = 0 := by omega
      rw [ei, ej, Int.add_zero, Int.add_zero]
      exact h
    · intro h
      have := h 0 0 (by omega) (by omega) (by omega) (by omega)
      rw [Int.add_zero, Int.add_zero] at this
      exact this
  | succ d ih =>
    intro x y
    rw [lay_s]
    constructor
    · intro h i j h1 h2 h3 h4
      have ha : ∃ a : Int, -1 ≤ a ∧ a ≤ 1 ∧ -d ≤ i - a ∧ i - a ≤ d := by
        by_cases g : i < 0
        · exact ⟨-1, by omega, by omega, by omega, by omega⟩
        · by_cases g2 : i = 0
          · exact ⟨0, by omega, by omega, by omega, by omega⟩
          · exact ⟨1, by omega, by omega, by omega, by omega⟩
      have hb : ∃ a : Int, -1 ≤ a ∧ a ≤ 1 ∧ -d ≤ j - a ∧ j - a ≤ d := by
        by_cases g : j < 0
        · exact ⟨-1, by omega, by omega, by omega, by omega⟩
        · by_cases g2 : j = 0
          · exact ⟨0, by omega, by omega, by omega, by omega⟩
          · exact ⟨1, by omega, by omega, by omega, by omega⟩
      obtain ⟨a, a1, a2, a3, a4⟩ := ha
      obtain ⟨b, b1, b2, b3, b4⟩ := hb
      have := ih.mp (h a b a1 a2 b1 b2) (i - a) (j - b) a3 a4 b3 b4
      rw [show x + a + (i - a) = x + i by omega, show y + b + (j - b) = y + j by omega] at this
      exact this
    · intro h a b a1 a2 b1 b2
      refine ih.mpr fun i j h1 h2 h3 h4 => ?_
      have := h (a + i) (b + j) (by omega) (by omega) (by omega) (by omega)
      rw [show x + (a + i) = x + a + i by omega, show y + (b + j) = y + b + j by omega] at this
      exact this
theorem lay_in {f : Nat → Int} {d : Nat} {x y : Int} (h : lay f d x y = true) : d ≤ x ∧ x + d < 48 ∧ d ≤ y ∧ y + d < 48 := by
  have h1 := cel_in (lay_w.mp h (-d) (-d) (by omega) (by omega) (by omega) (by omega))
  have h2 := cel_in (lay_w.mp h d d (by omega) (by omega) (by omega) (by omega))
  omega
theorem lay_out {f : Nat → Int} {d : Nat} {x y : Int} (h : ¬ (d ≤ x ∧ x + d < 48 ∧ d ≤ y ∧ y + d < 48)) : lay f d x y = false := by
  cases e : lay f d x y with
  | false => rfl
  | true => exact absurd (lay_in e) h
theorem lay_mono {f : Nat → Int} {d : Nat} {x y : Int} (h : lay f (d + 1) x y = true) : lay f d x y = true := by
  have := lay_s.mp h 0 0 (by omega) (by omega) (by omega) (by omega)
  rwa [Int.add_zero, Int.add_zero] at this
/-! half cells -/
def hay (f : Nat → Int) : Nat → Int → Int → Bool
  | 0, x, y => cel f (x / 2) (y / 2)
  | d + 1, x, y => (((hay f d x (y - 1) && hay f d (x - 1) (y - 1)) && hay f d (x + 1) (y - 1)) && ((hay f d x y && hay f d (x - 1) y) && hay f d (x + 1) y)) && ((hay f d x (y + 1) && hay f d (x - 1) (y + 1)) && hay f d (x + 1) (y + 1))
theorem hay_s {f : Nat → Int} {d : Nat} {x y : Int} : hay f (d + 1) x y = true ↔ ∀ a b : Int, -1 ≤ a → a ≤ 1 → -1 ≤ b → b ≤ 1 → hay f d (x + a) (y + b) = true := by
  simp only [hay, Bool.and_eq_true]
  constructor
  · rintro ⟨⟨⟨⟨h1, h2⟩, h3⟩, ⟨h4, h5⟩, h6⟩, ⟨h7, h8⟩, h9⟩ a b ha ha' hb hb'
    have ea : a = -1 ∨ a = 0 ∨ a = 1 := by omega
    have eb : b = -1 ∨ b = 0 ∨ b = 1 := by omega
    rcases ea with rfl | rfl | rfl <;> rcases eb with rfl | rfl | rfl <;> (try simp only [Int.add_zero]) <;> assumption
  · intro h
    refine ⟨⟨⟨⟨?_, ?_⟩, ?_⟩, ⟨?_, ?_⟩, ?_⟩, ⟨?_, ?_⟩, ?_⟩
    · have := h 0 (-1) (by omega) (by omega) (by omega) (by omega); rwa [Int.add_zero] at this
    · exact h (-1) (-1) (by omega) (by omega) (by omega) (by omega)
    · exact h 1 (-1) (by omega) (by omega) (by omega) (by omega)
    · have := h 0 0 (by omega) (by omega) (by omega) (by omega); rwa [Int.add_zero, Int.add_zero] at this
    · have := h (-1) 0 (by omega) (by omega) (by omega) (by omega); rwa [Int.add_zero] at this
    · have := h 1 0 (by omega) (by omega) (by omega) (by omega); rwa [Int.add_zero] at this
    · have := h 0 1 (by omega) (by omega) (by omega) (by omega); rwa [Int.add_zero] at this
    · exact h (-1) 1 (by omega) (by omega) (by omega) (by omega)
    · exact h 1 1 (by omega) (by omega) (by omega) (by omega)
theorem hay_in {f : Nat → Int} : ∀ {d : Nat} {x y : Int}, hay f d x y = true → d ≤ x ∧ x + d < 24 ∧ d ≤ y ∧ y + d < 24
  | 0, x, y, h => by
    have := cel_in (show cel f (x / 2) (y / 2) = true from h)
    omega
  | d + 1, x, y, h => by
    have h1 := hay_in (hay_s.mp h (-1) (-1) (by omega) (by omega) (by omega) (by omega))
    have h2 := hay_in (hay_s.mp h 1 1 (by omega) (by omega) (by omega) (by omega))
    omega
/-- layer 2h is layer h of the half cells, each of four quarter cells -/
theorem lay_hay {f : Nat → Int} : ∀ (h : Nat) (x y : Int), lay f (2 * h) x y = hay f h (x / 2) (y / 2)
  | 0, x, y => by
    show cel f (x / 4) (y / 4) = cel f (x / 2 / 2) (y / 2 / 2)
    rw [show x / 2 / 2 = x / 4 by omega, show y / 2 / 2 = y / 4 by omega]
  | h + 1, x, y => by
    have key : lay f (2 * (h + 1)) x y = true ↔ hay f (h + 1) (x / 2) (y / 2) = true := by
      rw [show 2 * (h + 1) = 2 * h + 1 + 1 by omega, hay_s]
      constructor
      · intro H a b a1 a2 b1 b2
        have H2 : ∀ i j : Int, -2 ≤ i → i ≤ 2 → -2 ≤ j → j ≤ 2 → lay f (2 * h) (x + i) (y + j) = true := by
          intro i j i1 i2 j1 j2
          have q : ∃ a : Int, -1 ≤ a ∧ a ≤ 1 ∧ -1 ≤ i - a ∧ i - a ≤ 1 := by
            by_cases g : i < 0
            · exact ⟨-1, by omega, by omega, by omega, by omega⟩
            · by_cases g2 : i = 0
              · exact ⟨0, by omega, by omega, by omega, by omega⟩
              · exact ⟨1, by omega, by omega, by omega, by omega⟩
          have q' : ∃ a : Int, -1 ≤ a ∧ a ≤ 1 ∧ -1 ≤ j - a ∧ j - a ≤ 1 := by
            by_cases g : j < 0
            · exact ⟨-1, by omega, by omega, by omega, by omega⟩
            · by_cases g2 : j = 0
              · exact ⟨0, by omega, by omega, by omega, by omega⟩
              · exact ⟨1, by omega, by omega, by omega, by omega⟩
          obtain ⟨a, a1, a2, a3, a4⟩ := q
          obtain ⟨b, b1, b2, b3, b4⟩ := q'
          have := lay_s.mp (lay_s.mp H a b a1 a2 b1 b2) (i - a) (j - b) a3 a4 b3 b4
          rwa [show x + a + (i - a) = x + i by omega, show y + b + (j - b) = y + j by omega] at this
        have := H2 (2 * a) (2 * b) (by omega) (by omega) (by omega) (by omega)
        rw [lay_hay h, show (x + 2 * a) / 2 = x / 2 + a by omega, show (y + 2 * b) / 2 = y / 2 + b by omega] at this
        exact this
      · intro H
        refine lay_s.mpr fun a b a1 a2 b1 b2 => lay_s.mpr fun i j i1 i2 j1 j2 => ?_
        rw [lay_hay h]
        have := H ((x + a + i) / 2 - x / 2) ((y + b + j) / 2 - y / 2) (by omega) (by omega) (by omega) (by omega)
        rwa [show x / 2 + ((x + a + i) / 2 - x / 2) = (x + a + i) / 2 by omega, show y / 2 + ((y + b + j) / 2 - y / 2) = (y + b + j) / 2 by omega] at this
    cases e1 : lay f (2 * (h + 1)) x y <;> cases e2 : hay f (h + 1) (x / 2) (y / 2)
    · rfl
    · exact absurd (key.mpr e2) (by rw [e1]; decide)
    · exact absurd (key.mp e1) (by rw [e2]; decide)
    · rfl
/-- a layer 2h with a cell: the next layer has one too -/
theorem lay_even {f : Nat → Int} {h : Nat} {x y : Int} (H : lay f (2 * h) x y = true) : ∃ x' y', lay f (2 * h + 1) x' y' = true := by
  refine ⟨4 * ((x - 2 * h) / 4) + 2 * h + 1, 4 * ((y - 2 * h) / 4) + 2 * h + 1, lay_w.mpr fun i j i1 i2 j1 j2 => ?_⟩
  have hi : ∃ i' : Int, -(2 * h : Nat) ≤ i' ∧ i' ≤ (2 * h : Nat) ∧ (x + i') / 4 = (4 * ((x - 2 * h) / 4) + 2 * h + 1 + i) / 4 := by
    by_cases g : 4 * ((x - 2 * h) / 4) + 2 * h + 1 + i < x - 2 * h
    · exact ⟨-(2 * h : Nat), by omega, by omega, by omega⟩
    · by_cases g2 : x + 2 * h < 4 * ((x - 2 * h) / 4) + 2 * h + 1 + i
      · exact ⟨(2 * h : Nat), by omega, by omega, by omega⟩
      · exact ⟨4 * ((x - 2 * h) / 4) + 2 * h + 1 + i - x, by omega, by omega, by congr 1; omega⟩
  have hj : ∃ i' : Int, -(2 * h : Nat) ≤ i' ∧ i' ≤ (2 * h : Nat) ∧ (y + i') / 4 = (4 * ((y - 2 * h) / 4) + 2 * h + 1 + j) / 4 := by
    by_cases g : 4 * ((y - 2 * h) / 4) + 2 * h + 1 + j < y - 2 * h
    · exact ⟨-(2 * h : Nat), by omega, by omega, by omega⟩
    · by_cases g2 : y + 2 * h < 4 * ((y - 2 * h) / 4) + 2 * h + 1 + j
      · exact ⟨(2 * h : Nat), by omega, by omega, by omega⟩
      · exact ⟨4 * ((y - 2 * h) / 4) + 2 * h + 1 + j - y, by omega, by omega, by congr 1; omega⟩
  obtain ⟨i', a1, a2, a3⟩ := hi
  obtain ⟨j', b1, b2, b3⟩ := hj
  rw [← a3, ← b3]
  exact lay_w.mp H i' j' a1 a2 b1 b2
/-! rows of bits -/
def Rep (g : Nat → Int64) (P : Int → Int → Bool) : Prop := ∀ y : Nat, y < 48 → ∀ x : Nat, bJ (g y) x = (decide (x < 48) && P x y)
theorem Rep.bit {g : Nat → Int64} {P : Int → Int → Bool} (h : Rep g P) {x y : Nat} (hy : y < 48) (hx : x < 48) : bJ (g y) x = P x y := by
  rw [h y hy x, decide_eq_true hx, Bool.true_and]
theorem Rep.hi {g : Nat → Int64} {P : Int → Int → Bool} (h : Rep g P) {x y : Nat} (hy : y < 48) (hx : 48 ≤ x) : bJ (g y) x = false := by
  rw [h y hy x, decide_eq_false (by omega), Bool.false_and]
theorem Rep.congr {g g' : Nat → Int64} {P P' : Int → Int → Bool} (h : Rep g P) (hg : ∀ y, y < 48 → g' y = g y) (hP : ∀ x y : Nat, x < 48 → y < 48 → P' x y = P x y) : Rep g' P' := by
  intro y hy x
  rw [hg y hy, h y hy x]
  by_cases hx : x < 48
  · rw [hP x y hx hy]
  · rw [decide_eq_false hx, Bool.false_and, Bool.false_and]
/-- the number of cells -/
def cntL (P : Int → Int → Bool) (n : Nat) : Nat → Nat
  | 0 => 0
  | m + 1 => cntL P n m + cntB (fun x => P x m) n
theorem cntL_le (P : Int → Int → Bool) (n : Nat) : ∀ m, cntL P n m ≤ n * m
  | 0 => Nat.le_refl 0
  | m + 1 => by
    have h1 := cntL_le P n m
    have h2 := cntB_le (fun x => P (x : Int) (m : Int)) n
    show cntL P n m + cntB (fun x => P x m) n ≤ n * (m + 1)
    rw [Nat.mul_succ]
    omega
theorem cntB_pos {b : Nat → Bool} : ∀ {n : Nat}, 0 < cntB b n → ∃ x, x < n ∧ b x = true
  | 0, h => absurd h (by simp [cntB])
  | n + 1, h => by
    cases e : b n with
    | true => exact ⟨n, Nat.lt_succ_self n, e⟩
    | false =>
      have h2 : 0 < cntB b n := by
        unfold cntB at h
        rw [e] at h
        simpa using h
      obtain ⟨x, h3, h4⟩ := cntB_pos h2
      exact ⟨x, Nat.lt_succ_of_lt h3, h4⟩
theorem cntB_one {b : Nat → Bool} : ∀ {n x : Nat}, x < n → b x = true → 0 < cntB b n
  | 0, x, h, _ => absurd h (Nat.not_lt_zero x)
  | n + 1, x, h, hb => by
    unfold cntB
    by_cases e : x = n
    · rw [← e, hb]; simp
    · have := cntB_one (n := n) (show x < n by omega) hb
      omega
theorem cntL_pos {P : Int → Int → Bool} {n : Nat} : ∀ {m : Nat}, 0 < cntL P n m → ∃ x y : Nat, x < n ∧ y < m ∧ P x y = true
  | 0, h => absurd h (Nat.lt_irrefl 0)
  | m + 1, h => by
    by_cases h1 : 0 < cntB (fun x => P x m) n
    · obtain ⟨x, h2, h3⟩ := cntB_pos h1
      exact ⟨x, m, h2, Nat.lt_succ_self m, h3⟩
    · have h2 : 0 < cntL P n m := by
        have : cntL P n (m + 1) = cntL P n m + cntB (fun x => P x m) n := rfl
        omega
      obtain ⟨x, y, h3, h4, h5⟩ := cntL_pos h2
      exact ⟨x, y, h3, Nat.lt_succ_of_lt h4, h5⟩
theorem cntL_one {P : Int → Int → Bool} {n : Nat} {x : Nat} (hx : x < n) : ∀ {m y : Nat}, y < m → P x y = true → 0 < cntL P n m
  | 0, y, h, _ => absurd h (Nat.not_lt_zero y)
  | m + 1, y, h, hp => by
    have e : cntL P n (m + 1) = cntL P n m + cntB (fun x => P x m) n := rfl
    by_cases h1 : y = m
    · have := cntB_one (b := fun x => P (x : Int) (m : Int)) hx (by rw [← h1]; exact hp)
      omega
    · have := cntL_one hx (m := m) (show y < m by omega) hp
      omega
def lcnt (f : Nat → Int) (d : Nat) : Nat := cntL (lay f d) 48 48
def hcnt (f : Nat → Int) (d : Nat) : Nat := cntL (hay f d) 24 24
theorem lcnt_0 {f : Nat → Int} {d : Nat} : lcnt f d = 0 ↔ ∀ x y, lay f d x y = false := by
  constructor
  · intro h x y
    cases e : lay f d x y with
    | false => rfl
    | true =>
      have hi := lay_in e
      obtain ⟨n, rfl⟩ : ∃ n : Nat, x = n := ⟨x.toNat, by omega⟩
      obtain ⟨m, rfl⟩ : ∃ n : Nat, y = n := ⟨y.toNat, by omega⟩
      have := cntL_one (P := lay f d) (n := 48) (x := n) (by omega) (m := 48) (y := m) (by omega) e
      unfold lcnt at h
      omega
  · intro h
    rcases Nat.eq_zero_or_pos (lcnt f d) with e | e
    · exact e
    · obtain ⟨x, y, -, -, h3⟩ := cntL_pos e
      rw [h] at h3
      cases h3
theorem lcnt_s {f : Nat → Int} {d : Nat} (h : lcnt f d = 0) : lcnt f (d + 1) = 0 := by
  rw [lcnt_0] at h ⊢
  intro x y
  cases e : lay f (d + 1) x y with
  | false => rfl
  | true => exact absurd (lay_mono e) (by rw [h]; decide)
theorem lcnt_up {f : Nat → Int} {d : Nat} (h : lcnt f d = 0) : ∀ k, lcnt f (d + k) = 0
  | 0 => h
  | k + 1 => lcnt_s (lcnt_up h k)
theorem lcnt_24 (f : Nat → Int) {d : Nat} (h : 24 ≤ d) : lcnt f d = 0 := by
  rw [lcnt_0]
  intro x y
  exact lay_out (by omega)
theorem lcnt_even {f : Nat → Int} {h : Nat} (H : lcnt f (2 * h + 1) = 0) : lcnt f (2 * h) = 0 := by
  rw [lcnt_0] at H ⊢
  intro x y
  cases e : lay f (2 * h) x y with
  | false => rfl
  | true =>
    obtain ⟨x', y', h'⟩ := lay_even e
    rw [H] at h'
    cases h'
theorem lcnt_le (f : Nat → Int) (d : Nat) : lcnt f d ≤ 2304 := cntL_le _ 48 48
theorem hcnt_le (f : Nat → Int) (d : Nat) : hcnt f d ≤ 576 := cntL_le _ 24 24
/-- each half cell counts four -/
theorem cntB_dbl {b c : Nat → Bool} : ∀ (n : Nat), (∀ x, x < 2 * n → b x = c (x / 2)) → cntB b (2 * n) = 2 * cntB c n
  | 0, _ => rfl
  | n + 1, h => by
    have ih := cntB_dbl (b := b) (c := c) n (fun x hx => h x (by omega))
    have h1 := h (2 * n) (by omega)
    have h2 := h (2 * n + 1) (by omega)
    rw [show (2 * n) / 2 = n by omega] at h1
    rw [show (2 * n + 1) / 2 = n by omega] at h2
    have e1 : cntB b (2 * n + 1 + 1) = cntB b (2 * n) + (bif b (2 * n) then 1 else 0) + (bif b (2 * n + 1) then 1 else 0) := rfl
    have e2 : cntB c (n + 1) = cntB c n + (bif c n then 1 else 0) := rfl
    show cntB b (2 * n + 1 + 1) = 2 * cntB c (n + 1)
    rw [e1, e2, ih, h1, h2]
    generalize (bif c n then 1 else 0) = q
    omega
theorem cntL_dbl {P P' : Int → Int → Bool} : ∀ (m : Nat), (∀ x y : Nat, x < 48 → y < 2 * m → P x y = P' ((x / 2 : Nat) : Int) ((y / 2 : Nat) : Int)) → cntL P 48 (2 * m) = 4 * cntL P' 24 m
  | 0, _ => rfl
  | m + 1, h => by
    have ih := cntL_dbl (P := P) (P' := P') m (fun x y hx hy => h x y hx (by omega))
    have h1 : cntB (fun x => P x ((2 * m : Nat) : Int)) 48 = 2 * cntB (fun x => P' x m) 24 := cntB_dbl 24 (fun x hx => by
      have := h x (2 * m) hx (by omega)
      rw [show (2 * m) / 2 = m by omega] at this
      exact this)
    have h2 : cntB (fun x => P x ((2 * m + 1 : Nat) : Int)) 48 = 2 * cntB (fun x => P' x m) 24 := cntB_dbl 24 (fun x hx => by
      have := h x (2 * m + 1) hx (by omega)
      rw [show (2 * m + 1) / 2 = m by omega] at this
      exact this)
    show cntL P 48 (2 * m) + cntB (fun x => P x ((2 * m : Nat) : Int)) 48 + cntB (fun x => P x ((2 * m + 1 : Nat) : Int)) 48 = 4 * (cntL P' 24 m + cntB (fun x => P' x m) 24)
    omega
theorem lcnt_hcnt (f : Nat → Int) (h : Nat) : lcnt f (2 * h) = 4 * hcnt f h := by
  unfold lcnt hcnt
  refine cntL_dbl 24 (fun x y hx hy => ?_)
  rw [lay_hay]
  rfl

/-! bends and the way from one to the next -/
def NoD (P : Int → Int → Bool) : Prop := ∀ x y, ¬ (P (x - 1) (y - 1) = true ∧ P x y = true ∧ P x (y - 1) = false ∧ P (x - 1) y = false) ∧ ¬ (P (x - 1) (y - 1) = false ∧ P x y = false ∧ P x (y - 1) = true ∧ P (x - 1) y = true)
def bn (P : Int → Int → Bool) (x y : Int) : Bool := (P (x - 1) (y - 1) ^^ P x (y - 1)) ^^ (P (x - 1) y ^^ P x y)
def lvd (P : Int → Int → Bool) (x y : Int) : Int := lvV (b2i (P (x - 1) (y - 1))) (b2i (P x (y - 1))) (b2i (P (x - 1) y)) (b2i (P x y))
def Dir (d : Int) : Prop := d = 0 ∨ d = 1 ∨ d = 2 ∨ d = 3
/-- a boundary goes from the point in direction d: the left cell is in, the right one out -/
def Ed (P : Int → Int → Bool) (x y d : Int) : Prop := (d = 0 ∧ P x y = true ∧ P x (y - 1) = false) ∨ (d = 1 ∧ P (x - 1) y = true ∧ P x y = false) ∨ (d = 2 ∧ P (x - 1) (y - 1) = true ∧ P (x - 1) y = false) ∨ (d = 3 ∧ P x (y - 1) = true ∧ P (x - 1) (y - 1) = false)
/-- a boundary comes to the point in direction d -/
def Ei (P : Int → Int → Bool) (x y d : Int) : Prop := (d = 0 ∧ P (x - 1) y = true ∧ P (x - 1) (y - 1) = false) ∨ (d = 1 ∧ P (x - 1) (y - 1) = true ∧ P x (y - 1) = false) ∨ (d = 2 ∧ P x (y - 1) = true ∧ P x y = false) ∨ (d = 3 ∧ P x y = true ∧ P (x - 1) y = false)
theorem Ed.dir {P : Int → Int → Bool} {x y d : Int} (h : Ed P x y d) : Dir d := by
  rcases h with h | h | h | h
  · exact Or.inl h.1
  · exact Or.inr (Or.inl h.1)
  · exact Or.inr (Or.inr (Or.inl h.1))
  · exact Or.inr (Or.inr (Or.inr h.1))
theorem bn_lv {P : Int → Int → Bool} (hD : NoD P) {x y : Int} (h : bn P x y = true) : Ed P x y (lvd P x y) := by
  have h1 := hD x y
  unfold bn at h
  unfold lvd lvV Ed
  revert h h1
  cases P (x - 1) (y - 1) <;> cases P x (y - 1) <;> cases P (x - 1) y <;> cases P x y <;> simp [b2i]
theorem bn_ed {P : Int → Int → Bool} {x y d e : Int} (h : bn P x y = true) (h1 : Ed P x y d) (h2 : Ed P x y e) : d = e := by
  unfold bn at h
  unfold Ed at h1 h2
  revert h h1 h2
  cases P (x - 1) (y - 1) <;> cases P x (y - 1) <;> cases P (x - 1) y <;> cases P x y <;> simp <;> omega
theorem bn_ei {P : Int → Int → Bool} {x y d e : Int} (h : bn P x y = true) (h1 : Ei P x y d) (h2 : Ei P x y e) : d = e := by
  unfold bn at h
  unfold Ei at h1 h2
  revert h h1 h2
  cases P (x - 1) (y - 1) <;> cases P x (y - 1) <;> cases P (x - 1) y <;> cases P x y <;> simp <;> omega
theorem ed_ei {P : Int → Int → Bool} {x y d : Int} (h : Ed P x y d) : Ei P (x + stepXV d) (y + stepYV d) d := by
  rcases h with ⟨rfl, h1, h2⟩ | ⟨rfl, h1, h2⟩ | ⟨rfl, h1, h2⟩ | ⟨rfl, h1, h2⟩
  · refine Or.inl ⟨rfl, ?_, ?_⟩
    · rw [show x + stepXV 0 - 1 = x by unfold stepXV; omega, show y + stepYV 0 = y by unfold stepYV; omega]; exact h1
    · rw [show x + stepXV 0 - 1 = x by unfold stepXV; omega, show y + stepYV 0 = y by unfold stepYV; omega]; exact h2
  · refine Or.inr (Or.inl ⟨rfl, ?_, ?_⟩)
    · rw [show x + stepXV 1 = x by unfold stepXV; simp, show y + stepYV 1 - 1 = y by unfold stepYV; simp]; exact h1
    · rw [show x + stepXV 1 = x by unfold stepXV; simp, show y + stepYV 1 - 1 = y by unfold stepYV; simp]; exact h2
  · refine Or.inr (Or.inr (Or.inl ⟨rfl, ?_, ?_⟩))
    · rw [show x + stepXV 2 = x - 1 by unfold stepXV; simp; omega, show y + stepYV 2 = y by unfold stepYV; simp]; exact h1
    · rw [show x + stepXV 2 = x - 1 by unfold stepXV; simp; omega, show y + stepYV 2 = y by unfold stepYV; simp]; exact h2
  · refine Or.inr (Or.inr (Or.inr ⟨rfl, ?_, ?_⟩))
    · rw [show x + stepXV 3 = x by unfold stepXV; simp, show y + stepYV 3 = y - 1 by unfold stepYV; simp; omega]; exact h1
    · rw [show x + stepXV 3 = x by unfold stepXV; simp, show y + stepYV 3 = y - 1 by unfold stepYV; simp; omega]; exact h2
theorem ei_ed {P : Int → Int → Bool} (hD : NoD P) {x y d : Int} (h : Ei P x y d) (hb : bn P x y = false) : Ed P x y d := by
  have h1 := hD x y
  unfold bn at hb
  unfold Ei at h
  unfold Ed
  revert hb h1 h
  cases P (x - 1) (y - 1) <;> cases P x (y - 1) <;> cases P (x - 1) y <;> cases P x y <;> simp <;> omega
def four (P : Int → Int → Bool) (x y : Int) : Int := b2i (P (x - 1) (y - 1)) + b2i (P x (y - 1)) + b2i (P (x - 1) y) + b2i (P x y)
theorem ei_lv {P : Int → Int → Bool} {x y d : Int} (h : Ei P x y d) (hb : bn P x y = true) : (four P x y = 1 → lvd P x y = (d + 1) % 4) ∧ (four P x y ≠ 1 → lvd P x y = (d + 3) % 4) := by
  unfold bn at hb
  unfold Ei at h
  unfold lvd lvV four
  revert hb h
  cases P (x - 1) (y - 1) <;> cases P x (y - 1) <;> cases P (x - 1) y <;> cases P x y <;> simp [b2i] <;> omega
/-- from the point, the first bend in direction d is n steps away -/
def RunN (P : Int → Int → Bool) (x y d : Int) (n : Nat) : Prop := 0 < n ∧ (∀ m : Nat, 0 < m → m < n → bn P (x + m * stepXV d) (y + m * stepYV d) = false) ∧ bn P (x + n * stepXV d) (y + n * stepYV d) = true
theorem RunN.un {P : Int → Int → Bool} {x y d : Int} {n m : Nat} (h : RunN P x y d n) (g : RunN P x y d m) : n = m := by
  rcases Nat.lt_trichotomy n m with k | k | k
  · have := g.2.1 n h.1 k
    rw [h.2.2] at this
    cases this
  · exact k
  · have := h.2.1 m g.1 k
    rw [g.2.2] at this
    cases this
/-- all the way the boundary goes on -/
theorem RunN.ed {P : Int → Int → Bool} (hD : NoD P) {x y d : Int} (h0 : Ed P x y d) : ∀ m : Nat, (∀ j : Nat, 0 < j → j ≤ m → bn P (x + j * stepXV d) (y + j * stepYV d) = false) → Ed P (x + m * stepXV d) (y + m * stepYV d) d
  | 0, _ => by
    rw [show x + ((0 : Nat) : Int) * stepXV d = x by simp, show y + ((0 : Nat) : Int) * stepYV d = y by simp]
    exact h0
  | m + 1, hb => by
    have ih := RunN.ed hD h0 m (fun j h1 h2 => hb j h1 (by omega))
    have k := ed_ei ih
    have e1 : x + (m : Int) * stepXV d + stepXV d = x + ((m + 1 : Nat) : Int) * stepXV d := by rw [Int.natCast_add, Int.add_mul]; omega
    have e2 : y + (m : Int) * stepYV d + stepYV d = y + ((m + 1 : Nat) : Int) * stepYV d := by rw [Int.natCast_add, Int.add_mul]; omega
    rw [e1, e2] at k
    exact ei_ed hD k (hb (m + 1) (by omega) (Nat.le_refl _))
theorem RunN.ei {P : Int → Int → Bool} (hD : NoD P) {x y d : Int} (h0 : Ed P x y d) {n : Nat} (h : RunN P x y d n) : Ei P (x + n * stepXV d) (y + n * stepYV d) d := by
  obtain ⟨h1, h2, h3⟩ := h
  obtain ⟨m, rfl⟩ : ∃ m, n = m + 1 := ⟨n - 1, by omega⟩
  have k := ed_ei (RunN.ed hD h0 m (fun j j1 j2 => h2 j j1 (by omega)))
  have e1 : x + (m : Int) * stepXV d + stepXV d = x + ((m + 1 : Nat) : Int) * stepXV d := by rw [Int.natCast_add, Int.add_mul]; omega
  have e2 : y + (m : Int) * stepYV d + stepYV d = y + ((m + 1 : Nat) : Int) * stepYV d := by rw [Int.natCast_add, Int.add_mul]; omega
  rw [e1, e2] at k
  exact k
theorem Ed.inn {P : Int → Int → Bool} (hg : InG P) {x y d : Int} (h : Ed P x y d) : 0 ≤ x ∧ x ≤ 48 ∧ 0 ≤ y ∧ y ≤ 48 ∧ 0 ≤ x + stepXV d ∧ x + stepXV d ≤ 48 ∧ 0 ≤ y + stepYV d ∧ y + stepYV d ≤ 48 := by
  rcases h with ⟨rfl, h1, -⟩ | ⟨rfl, h1, -⟩ | ⟨rfl, h1, -⟩ | ⟨rfl, h1, -⟩ <;> have := hg _ _ h1 <;> simp [stepXV, stepYV] <;> omega
theorem step_cases {d : Int} (h : Dir d) : (d = 0 ∧ stepXV d = 1 ∧ stepYV d = 0) ∨ (d = 1 ∧ stepXV d = 0 ∧ stepYV d = 1) ∨ (d = 2 ∧ stepXV d = -1 ∧ stepYV d = 0) ∨ (d = 3 ∧ stepXV d = 0 ∧ stepYV d = -1) := by
  rcases h with rfl | rfl | rfl | rfl <;> simp [stepXV, stepYV]
theorem RunN.ex {P : Int → Int → Bool} (hg : InG P) (hD : NoD P) {x y d : Int} (h0 : Ed P x y d) : ∃ n, n ≤ 48 ∧ RunN P x y d n := by
  have key : ∀ m : Nat, (∃ n, n ≤ m ∧ RunN P x y d n) ∨ (∀ j : Nat, 0 < j → j ≤ m → bn P (x + j * stepXV d) (y + j * stepYV d) = false) := by
    intro m
    induction m with
    | zero => exact Or.inr fun j h1 h2 => by omega
    | succ m ih =>
      rcases ih with ⟨n, h1, h2⟩ | h
      · exact Or.inl ⟨n, by omega, h2⟩
      · cases e : bn P (x + ((m + 1 : Nat) : Int) * stepXV d) (y + ((m + 1 : Nat) : Int) * stepYV d) with
        | true => exact Or.inl ⟨m + 1, Nat.le_refl _, by omega, fun j h1 h2 => h j h1 (by omega), e⟩
        | false =>
          refine Or.inr fun j h1 h2 => ?_
          by_cases g : j = m + 1
          · subst g; exact e
          · exact h j h1 (by omega)
  rcases key 48 with h | h
  · exact h
  · exfalso
    have k0 := h0.inn hg
    have k := (RunN.ed hD h0 48 h).inn hg
    rcases step_cases h0.dir with ⟨-, a, b⟩ | ⟨-, a, b⟩ | ⟨-, a, b⟩ | ⟨-, a, b⟩ <;> rw [a, b] at k k0 <;> omega
theorem RunN.inn {P : Int → Int → Bool} (hg : InG P) (hD : NoD P) {x y d : Int} (h0 : Ed P x y d) {n : Nat} (h : RunN P x y d n) : n ≤ 48 ∧ ∀ m : Nat, m ≤ n → 0 ≤ x + m * stepXV d ∧ x + m * stepXV d ≤ 48 ∧ 0 ≤ y + m * stepYV d ∧ y + m * stepYV d ≤ 48 := by
  obtain ⟨n', h1, h2⟩ := RunN.ex hg hD h0
  have e := h.un h2
  refine ⟨by omega, fun m hm => ?_⟩
  by_cases g : m < n
  · have k := (RunN.ed hD h0 m (fun j j1 j2 => h.2.1 j j1 (by omega))).inn hg
    exact ⟨k.1, k.2.1, k.2.2.1, k.2.2.2.1⟩
  · have e2 : m = n := by omega
    subst e2
    obtain ⟨q, rfl⟩ : ∃ q, m = q + 1 := ⟨m - 1, by have := h.1; omega⟩
    have k := (RunN.ed hD h0 q (fun j j1 j2 => h.2.1 j j1 (by omega))).inn hg
    have e1 : x + (q : Int) * stepXV d + stepXV d = x + ((q + 1 : Nat) : Int) * stepXV d := by rw [Int.natCast_add, Int.add_mul]; omega
    have e2 : y + (q : Int) * stepYV d + stepYV d = y + ((q + 1 : Nat) : Int) * stepYV d := by rw [Int.natCast_add, Int.add_mul]; omega
    rw [e1, e2] at k
    exact ⟨k.2.2.2.2.1, k.2.2.2.2.2.1, k.2.2.2.2.2.2.1, k.2.2.2.2.2.2.2⟩
/-- from a bend to the next one -/
def Nx (P : Int → Int → Bool) (x y x' y' : Int) : Prop := ∃ n, RunN P x y (lvd P x y) n ∧ x' = x + n * stepXV (lvd P x y) ∧ y' = y + n * stepYV (lvd P x y)
theorem Nx.ex {P : Int → Int → Bool} (hg : InG P) (hD : NoD P) {x y : Int} (h : bn P x y = true) : ∃ x' y', Nx P x y x' y' := by
  obtain ⟨n, -, h2⟩ := RunN.ex hg hD (bn_lv hD h)
  exact ⟨_, _, n, h2, rfl, rfl⟩
theorem Nx.bd {P : Int → Int → Bool} {x y x' y' : Int} (h : Nx P x y x' y') : bn P x' y' = true := by
  obtain ⟨n, h1, rfl, rfl⟩ := h
  exact h1.2.2
theorem Nx.fn {P : Int → Int → Bool} {x y a b c d : Int} (h : Nx P x y a b) (g : Nx P x y c d) : a = c ∧ b = d := by
  obtain ⟨n, h1, rfl, rfl⟩ := h
  obtain ⟨m, g1, rfl, rfl⟩ := g
  rw [h1.un g1]
  exact ⟨rfl, rfl⟩
theorem Nx.inj {P : Int → Int → Bool} (hD : NoD P) {x y a b x' y' : Int} (hb : bn P x y = true) (hb' : bn P a b = true) (h : Nx P x y x' y') (g : Nx P a b x' y') : x = a ∧ y = b := by
  have hq := h.bd
  obtain ⟨n, h1, h2, h3⟩ := h
  obtain ⟨m, g1, g2, g3⟩ := g
  have e1 := RunN.ei hD (bn_lv hD hb) h1
  have e2 := RunN.ei hD (bn_lv hD hb') g1
  rw [← h2, ← h3] at e1
  rw [← g2, ← g3] at e2
  have ed := bn_ei hq e1 e2
  rw [← ed] at g1 g2 g3
  have n0 := h1.1
  have m0 := g1.1
  generalize lvd P x y = d at *
  rcases Nat.lt_trichotomy n m with k | k | k
  · exfalso
    have := g1.2.1 (m - n) (by omega) (by omega)
    have ea : a + ((m - n : Nat) : Int) * stepXV d = x := by rw [Int.ofNat_sub (by omega), Int.sub_mul]; omega
    have eb : b + ((m - n : Nat) : Int) * stepYV d = y := by rw [Int.ofNat_sub (by omega), Int.sub_mul]; omega
    rw [ea, eb, hb] at this
    cases this
  · subst k; omega
  · exfalso
    have := h1.2.1 (n - m) (by omega) (by omega)
    have ea : x + ((n - m : Nat) : Int) * stepXV d = a := by rw [Int.ofNat_sub (by omega), Int.sub_mul]; omega
    have eb : y + ((n - m : Nat) : Int) * stepYV d = b := by rw [Int.ofNat_sub (by omega), Int.sub_mul]; omega
    rw [ea, eb, hb'] at this
    cases this
theorem bn_in {P : Int → Int → Bool} (hg : InG P) {x y : Int} (h : bn P x y = true) : 0 ≤ x ∧ x ≤ 48 ∧ 0 ≤ y ∧ y ≤ 48 := by
  have f : ∀ a b : Int, ¬ (0 ≤ a ∧ a < 48 ∧ 0 ≤ b ∧ b < 48) → P a b = false := fun a b hn => by
    cases e : P a b with
    | false => rfl
    | true => exact absurd (hg a b e) hn
  have key : ¬ ¬ (0 ≤ x ∧ x ≤ 48 ∧ 0 ≤ y ∧ y ≤ 48) := fun hn => by
    unfold bn at h
    rw [f (x - 1) (y - 1) (by omega), f x (y - 1) (by omega), f (x - 1) y (by omega), f x y (by omega)] at h
    cases h
  exact Classical.byContradiction key

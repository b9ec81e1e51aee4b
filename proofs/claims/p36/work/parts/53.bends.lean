/-! bends of a phase: no corner touching, at most 312, four to a contour -/
theorem Bool_eq {a b : Bool} (h : a = true ↔ b = true) : a = b := by
  cases a <;> cases b <;> simp_all
/-- two neighbours with the same window -/
theorem pk_same {f : Nat → Int} {k : Nat} {x y : Int} (h : (x - 2 * k) % 2 = 0) : lay f (2 * k + 1) (x - 1) y = lay f (2 * k + 1) x y := by
  refine Bool_eq ?_
  rw [pk_w, pk_w]
  constructor
  · intro g u v u1 u2 v1 v2
    exact g u v (by omega) (by omega) v1 v2
  · intro g u v u1 u2 v1 v2
    exact g u v (by omega) (by omega) v1 v2
theorem pk_samey {f : Nat → Int} {k : Nat} {x y : Int} (h : (y - 2 * k) % 2 = 0) : lay f (2 * k + 1) x (y - 1) = lay f (2 * k + 1) x y := by
  refine Bool_eq ?_
  rw [pk_w, pk_w]
  constructor
  · intro g u v u1 u2 v1 v2
    exact g u v u1 u2 (by omega) (by omega)
  · intro g u v u1 u2 v1 v2
    exact g u v u1 u2 (by omega) (by omega)
/-- between two middles: in if both are -/
theorem pk_mid {f : Nat → Int} {k : Nat} {x y : Int} (h : (x - 2 * k) % 4 = 3) : lay f (2 * k + 1) x y = (lay f (2 * k + 1) (x - 1) y && lay f (2 * k + 1) (x + 2) y) := by
  refine Bool_eq ?_
  rw [Bool.and_eq_true, pk_w, pk_w, pk_w]
  constructor
  · intro g
    exact ⟨fun u v u1 u2 v1 v2 => g u v (by omega) (by omega) v1 v2, fun u v u1 u2 v1 v2 => g u v (by omega) (by omega) v1 v2⟩
  · rintro ⟨g1, g2⟩ u v u1 u2 v1 v2
    by_cases q : u ≤ (x - 1 + 2 * k + 1) / 4
    · exact g1 u v (by omega) q v1 v2
    · exact g2 u v (by omega) (by omega) v1 v2
theorem pk_midy {f : Nat → Int} {k : Nat} {x y : Int} (h : (y - 2 * k) % 4 = 3) : lay f (2 * k + 1) x y = (lay f (2 * k + 1) x (y - 1) && lay f (2 * k + 1) x (y + 2)) := by
  refine Bool_eq ?_
  rw [Bool.and_eq_true, pk_w, pk_w, pk_w]
  constructor
  · intro g
    exact ⟨fun u v u1 u2 v1 v2 => g u v u1 u2 (by omega) (by omega), fun u v u1 u2 v1 v2 => g u v u1 u2 (by omega) (by omega)⟩
  · rintro ⟨g1, g2⟩ u v u1 u2 v1 v2
    by_cases q : v ≤ (y - 1 + 2 * k + 1) / 4
    · exact g1 u v u1 u2 (by omega) q
    · exact g2 u v u1 u2 (by omega) (by omega)
theorem bn_odd {f : Nat → Int} {k : Nat} {x y : Int} (h : bn (lay f (2 * k + 1)) x y = true) : (x - 2 * k) % 2 = 1 ∧ (y - 2 * k) % 2 = 1 := by
  unfold bn at h
  constructor
  · rcases Int.emod_two_eq (x - 2 * k) with g | g
    · rw [pk_same g, pk_same g] at h
      revert h
      cases lay f (2 * k + 1) x (y - 1) <;> cases lay f (2 * k + 1) x y <;> simp
    · exact g
  · rcases Int.emod_two_eq (y - 2 * k) with g | g
    · rw [pk_samey g, pk_samey g] at h
      revert h
      cases lay f (2 * k + 1) (x - 1) y <;> cases lay f (2 * k + 1) x y <;> simp
    · exact g
/-- of two points of a row around a middle's end only one is a bend -/
theorem bn_pair {f : Nat → Int} {k : Nat} {x y : Int} (hx : (x - 2 * k) % 4 = 3) (h1 : bn (lay f (2 * k + 1)) x y = true) (h2 : bn (lay f (2 * k + 1)) (x + 2) y = true) : False := by
  have ho := (bn_odd h1).2
  have m1 := pk_mid (f := f) (y := y) hx
  have m2 := pk_mid (f := f) (y := y - 1) hx
  have s1 := pk_same (f := f) (k := k) (x := x + 1) (y := y) (by omega)
  have s2 := pk_same (f := f) (k := k) (x := x + 1) (y := y - 1) (by omega)
  rw [show x + 1 - 1 = x by omega] at s1 s2
  unfold bn at h1 h2
  rw [show x + 2 - 1 = x + 1 by omega, ← s1, ← s2] at h2
  rcases (show (y - 2 * k) % 4 = 1 ∨ (y - 2 * k) % 4 = 3 by omega) with hy | hy
  · have d : ∀ z : Int, lay f (2 * k + 1) z (y - 1) = true → lay f (2 * k + 1) z y = true := by
      intro z hz
      have e1 := pk_midy (f := f) (k := k) (x := z) (y := y - 2) (by omega)
      have e2 := pk_samey (f := f) (k := k) (x := z) (y := y - 1) (by omega)
      rw [show y - 1 - 1 = y - 2 by omega] at e2
      rw [e2, hz, show y - 2 + 2 = y by omega] at e1
      have := e1.symm
      rw [Bool.and_eq_true] at this
      exact this.2
    have d1 := d (x - 1)
    have d2 := d (x + 2)
    rw [m1, m2] at h1 h2
    revert h1 h2 d1 d2
    cases lay f (2 * k + 1) (x - 1) y <;> cases lay f (2 * k + 1) (x + 2) y <;> cases lay f (2 * k + 1) (x - 1) (y - 1) <;> cases lay f (2 * k + 1) (x + 2) (y - 1) <;> simp
  · have d : ∀ z : Int, lay f (2 * k + 1) z y = true → lay f (2 * k + 1) z (y - 1) = true := by
      intro z hz
      have e1 := pk_midy (f := f) (k := k) (x := z) (y := y) hy
      rw [hz] at e1
      have := e1.symm
      rw [Bool.and_eq_true] at this
      exact this.1
    have d1 := d (x - 1)
    have d2 := d (x + 2)
    rw [m1, m2] at h1 h2
    revert h1 h2 d1 d2
    cases lay f (2 * k + 1) (x - 1) y <;> cases lay f (2 * k + 1) (x + 2) y <;> cases lay f (2 * k + 1) (x - 1) (y - 1) <;> cases lay f (2 * k + 1) (x + 2) (y - 1) <;> simp
theorem pk_nod (f : Nat → Int) (k : Nat) : NoD (lay f (2 * k + 1)) := by
  intro x y
  -- the row or the column in between settles it
  have key : ∀ {a b c d : Bool}, (b = (a && c) ∨ a = (b && d) ∨ True) → True := fun _ => trivial
  constructor
  · rintro ⟨h1, h2, h3, h4⟩
    have h1 := pk_w.mp h1
    have h2 := pk_w.mp h2
    rcases (show (x - 2 * k) % 2 = 0 ∨ (x - 2 * k) % 4 = 1 ∨ (x - 2 * k) % 4 = 3 by omega) with g | g | g
    · have e := pk_same (f := f) (k := k) (x := x) (y := y) g
      rw [h4] at e
      rw [pk_w.mpr h2] at e
      cases e
    · have : lay f (2 * k + 1) x (y - 1) = true := pk_w.mpr fun u v u1 u2 v1 v2 => by
        exact h1 u v (by omega) (by omega) v1 v2
      rw [this] at h3
      cases h3
    · have : lay f (2 * k + 1) (x - 1) y = true := pk_w.mpr fun u v u1 u2 v1 v2 => by
        exact h2 u v (by omega) (by omega) v1 v2
      rw [this] at h4
      cases h4
  · rintro ⟨h1, h2, h3, h4⟩
    have h3 := pk_w.mp h3
    have h4 := pk_w.mp h4
    rcases (show (x - 2 * k) % 2 = 0 ∨ (x - 2 * k) % 4 = 1 ∨ (x - 2 * k) % 4 = 3 by omega) with g | g | g
    · have e := pk_same (f := f) (k := k) (x := x) (y := y) g
      rw [h2] at e
      rw [pk_w.mpr h4] at e
      cases e
    · have : lay f (2 * k + 1) x y = true := pk_w.mpr fun u v u1 u2 v1 v2 => by
        exact h4 u v (by omega) (by omega) v1 v2
      rw [this] at h2
      cases h2
    · have : lay f (2 * k + 1) (x - 1) (y - 1) = true := pk_w.mpr fun u v u1 u2 v1 v2 => by
        exact h3 u v (by omega) (by omega) v1 v2
      rw [this] at h1
      cases h1
theorem bn_rng {f : Nat → Int} {k : Nat} {x y : Int} (h : bn (lay f (2 * k + 1)) x y = true) : 2 * k + 1 ≤ x ∧ x + 2 * k ≤ 47 ∧ 2 * k + 1 ≤ y ∧ y + 2 * k ≤ 47 := by
  have key : ¬ ¬ (2 * k + 1 ≤ x ∧ x + 2 * k ≤ 47 ∧ 2 * k + 1 ≤ y ∧ y + 2 * k ≤ 47) := fun hn => by
    unfold bn at h
    rw [lay_out (show ¬ (((2 * k + 1 : Nat) : Int) ≤ x - 1 ∧ x - 1 + ((2 * k + 1 : Nat) : Int) < 48 ∧ ((2 * k + 1 : Nat) : Int) ≤ y - 1 ∧ y - 1 + ((2 * k + 1 : Nat) : Int) < 48) by omega), lay_out (show ¬ (((2 * k + 1 : Nat) : Int) ≤ x ∧ x + ((2 * k + 1 : Nat) : Int) < 48 ∧ ((2 * k + 1 : Nat) : Int) ≤ y - 1 ∧ y - 1 + ((2 * k + 1 : Nat) : Int) < 48) by omega), lay_out (show ¬ (((2 * k + 1 : Nat) : Int) ≤ x - 1 ∧ x - 1 + ((2 * k + 1 : Nat) : Int) < 48 ∧ ((2 * k + 1 : Nat) : Int) ≤ y ∧ y + ((2 * k + 1 : Nat) : Int) < 48) by omega), lay_out (show ¬ (((2 * k + 1 : Nat) : Int) ≤ x ∧ x + ((2 * k + 1 : Nat) : Int) < 48 ∧ ((2 * k + 1 : Nat) : Int) ≤ y ∧ y + ((2 * k + 1 : Nat) : Int) < 48) by omega)] at h
    cases h
  exact Classical.byContradiction key
/-- a bend's slot -/
def slot (k : Nat) (x y : Int) : Nat := 13 * ((y - 2 * k - 1).toNat / 2) + (x - 2 * k + 1).toNat / 4
theorem slot_lt {f : Nat → Int} {k : Nat} {x y : Int} (h : bn (lay f (2 * k + 1)) x y = true) : slot k x y < 312 := by
  have r := bn_rng h
  have h1 : (y - 2 * k - 1).toNat / 2 ≤ 23 := by omega
  have h2 : (x - 2 * k + 1).toNat / 4 ≤ 12 := by omega
  unfold slot
  omega
theorem slot_inj {f : Nat → Int} {k : Nat} {x y x' y' : Int} (h : bn (lay f (2 * k + 1)) x y = true) (h' : bn (lay f (2 * k + 1)) x' y' = true) (e : slot k x y = slot k x' y') : x = x' ∧ y = y' := by
  have r := bn_rng h
  have r' := bn_rng h'
  have o := bn_odd h
  have o' := bn_odd h'
  have h1 : (x - 2 * k + 1).toNat / 4 ≤ 12 := by omega
  have h2 : (x' - 2 * k + 1).toNat / 4 ≤ 12 := by omega
  have e12 : (y - 2 * k - 1).toNat / 2 = (y' - 2 * k - 1).toNat / 2 ∧ (x - 2 * k + 1).toNat / 4 = (x' - 2 * k + 1).toNat / 4 := by
    unfold slot at e
    generalize (x - 2 * k + 1).toNat / 4 = A at *
    generalize (x' - 2 * k + 1).toNat / 4 = B at *
    generalize (y - 2 * k - 1).toNat / 2 = C at *
    generalize (y' - 2 * k - 1).toNat / 2 = D at *
    omega
  obtain ⟨e1, e2⟩ := e12
  have ey : y = y' := by omega
  refine ⟨?_, ey⟩
  subst ey
  have hd : x = x' ∨ (x' = x + 2 ∧ (x - 2 * k) % 4 = 3) ∨ (x = x' + 2 ∧ (x' - 2 * k) % 4 = 3) := by omega
  rcases hd with k1 | ⟨k1, k2⟩ | ⟨k1, k2⟩
  · exact k1
  · subst k1; exact absurd h' (fun h' => bn_pair k2 h h')
  · subst k1; exact absurd h (fun h => bn_pair k2 h' h)
theorem cP_true : ∀ n, cP (fun _ => True) n = n
  | 0 => rfl
  | n + 1 => by rw [cP_y trivial, cP_true n]
/-- at most 312 different bends -/
theorem bends_le {f : Nat → Int} {k T : Nat} {xs ys : Nat → Int} (hb : ∀ i, i < T → bn (lay f (2 * k + 1)) (xs i) (ys i) = true) (hi : ∀ i j, i < T → j < T → xs i = xs j → ys i = ys j → i = j) : T ≤ 312 := by
  have := cP_pig (p := fun _ => True) T 312 (fun i => slot k (xs i) (ys i)) (fun i h _ => slot_lt (hb i h)) (fun i j h1 h2 _ _ e => by
    obtain ⟨a, b⟩ := slot_inj (hb i h1) (hb j h2) e
    exact hi i j h1 h2 a b)
  rwa [cP_true] at this
theorem Cw.le {f : Nat → Int} {k : Nat} {n : Nat} {st : Nat → Nat} {xs ys : Nat → Int} {bx bY qx qy : Int} {m : Nat} (h : Cw (lay f (2 * k + 1)) n st xs ys bx bY m qx qy) : st n + m ≤ 312 := by
  obtain ⟨a1, -, -, -, a7, -, -, -, a11⟩ := h
  exact bends_le (fun i hi => by
    by_cases g : i < st n
    · exact a1.bend g
    · exact a7 i (by omega) hi) a11
theorem Ct.le {f : Nat → Int} {k : Nat} {n : Nat} {st : Nat → Nat} {xs ys : Nat → Int} (h : Ct (lay f (2 * k + 1)) n st xs ys) : st n ≤ 312 := bends_le (fun i hi => h.bend hi) h.2.2
/-! a contour has four sides at least -/
theorem Nx.par {P : Int → Int → Bool} (hD : NoD P) {x y x' y' : Int} (hb : bn P x y = true) (h : Nx P x y x' y') : lvd P x' y' % 2 ≠ lvd P x y % 2 ∧ Dir (lvd P x y) ∧ Dir (lvd P x' y') := by
  have hq := h.bd
  obtain ⟨n, h1, h2, h3⟩ := h
  have e0 := bn_lv hD hb
  have e1 := RunN.ei hD e0 h1
  rw [← h2, ← h3] at e1
  have k := ei_lv e1 hq
  have d0 := e0.dir
  refine ⟨?_, d0, (bn_lv hD hq).dir⟩
  unfold Dir at d0
  by_cases g : four P x' y' = 1
  · have := k.1 g; omega
  · have := k.2 g; omega
/-- how far: along one axis only, and somewhere -/
theorem Nx.far {P : Int → Int → Bool} {x y x' y' : Int} (hd : Dir (lvd P x y)) (h : Nx P x y x' y') : (lvd P x y % 2 = 0 → y' = y ∧ x' ≠ x) ∧ (lvd P x y % 2 = 1 → x' = x ∧ y' ≠ y) := by
  obtain ⟨n, h1, h2, h3⟩ := h
  have h0 := h1.1
  rcases step_cases hd with ⟨e, a, b⟩ | ⟨e, a, b⟩ | ⟨e, a, b⟩ | ⟨e, a, b⟩ <;> rw [a] at h2 <;> rw [b] at h3 <;> rw [e] <;> refine ⟨fun g => ?_, fun g => ?_⟩ <;> omega
theorem Ct.four {P : Int → Int → Bool} (hD : NoD P) {n : Nat} {st : Nat → Nat} {xs ys : Nat → Int} (h : Ct P n st xs ys) {c : Nat} (hc : c < n) : st c + 4 ≤ st (c + 1) := by
  obtain ⟨h1, h2, -⟩ := h.2.1 c hc
  have N : ∀ i, st c ≤ i → i + 1 < st (c + 1) → bn P (xs i) (ys i) = true ∧ Nx P (xs i) (ys i) (xs (i + 1)) (ys (i + 1)) := by
    intro i i1 i2
    obtain ⟨k1, k2⟩ := h2 i i1 (by omega)
    unfold nxi at k2
    rw [if_neg (by omega)] at k2
    exact ⟨k1, k2⟩
  have C : ∀ i, st c ≤ i → i + 1 = st (c + 1) → bn P (xs i) (ys i) = true ∧ Nx P (xs i) (ys i) (xs (st c)) (ys (st c)) := by
    intro i i1 i2
    obtain ⟨k1, k2⟩ := h2 i i1 (by omega)
    unfold nxi at k2
    rw [if_pos i2] at k2
    exact ⟨k1, k2⟩
  rcases Nat.lt_or_ge (st (c + 1)) (st c + 4) with g | g
  · exfalso
    rcases (show st (c + 1) = st c + 1 ∨ st (c + 1) = st c + 2 ∨ st (c + 1) = st c + 3 by omega) with e | e | e
    · obtain ⟨b0, n0⟩ := C (st c) (Nat.le_refl _) (by omega)
      exact (n0.par hD b0).1 rfl
    · obtain ⟨b0, n0⟩ := N (st c) (Nat.le_refl _) (by omega)
      obtain ⟨b1, n1⟩ := C (st c + 1) (by omega) (by omega)
      obtain ⟨p0, d0, d1⟩ := n0.par hD b0
      have f0 := n0.far d0
      have f1 := n1.far d1
      rcases Int.emod_two_eq (lvd P (xs (st c)) (ys (st c))) with q | q
      · have := f0.1 q
        have := f1.2 (by omega)
        omega
      · have := f0.2 q
        have := f1.1 (by omega)
        omega
    · obtain ⟨b0, n0⟩ := N (st c) (Nat.le_refl _) (by omega)
      obtain ⟨b1, n1⟩ := N (st c + 1) (by omega) (by omega)
      obtain ⟨b2, n2⟩ := C (st c + 1 + 1) (by omega) (by omega)
      have p0 := (n0.par hD b0).1
      have p1 := (n1.par hD b1).1
      have p2 := (n2.par hD b2).1
      omega
  · exact g
theorem Ct.n4 {P : Int → Int → Bool} (hD : NoD P) {n : Nat} {st : Nat → Nat} {xs ys : Nat → Int} (h : Ct P n st xs ys) : 4 * n ≤ st n := by
  have key : ∀ m, m ≤ n → 4 * m ≤ st m := by
    intro m
    induction m with
    | zero => intro _; omega
    | succ m ih =>
      intro hm
      have := ih (by omega)
      have := h.four hD (c := m) (by omega)
      omega
  exact key n (Nat.le_refl n)
theorem Ct.n78 {f : Nat → Int} {k : Nat} {n : Nat} {st : Nat → Nat} {xs ys : Nat → Int} (h : Ct (lay f (2 * k + 1)) n st xs ys) : n ≤ 78 := by
  have := h.n4 (pk_nod f k)
  have := h.le
  omega

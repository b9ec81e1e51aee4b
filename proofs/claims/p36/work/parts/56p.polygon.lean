/-! a contour as a closed walk: it meets itself nowhere, and turns once around -/
theorem nb_ed {P : Int → Int → Bool} (hD : NoD P) {x y d e : Int} (h : bn P x y = false) (h1 : Ed P x y d) (h2 : Ed P x y e) : d = e := by
  have hq := hD x y
  unfold bn at h
  unfold Ed at h1 h2
  revert h h1 h2 hq
  cases P (x - 1) (y - 1) <;> cases P x (y - 1) <;> cases P (x - 1) y <;> cases P x y <;> simp <;> omega
theorem an_ed {P : Int → Int → Bool} (hD : NoD P) {x y d e : Int} (h1 : Ed P x y d) (h2 : Ed P x y e) : d = e := by
  cases h : bn P x y with
  | true => exact bn_ed h h1 h2
  | false => exact nb_ed hD h h1 h2
/-- a contour's place, around -/
def ixc (a m i : Nat) : Nat := a + (if i < m then i else i - m)
theorem ixc_lt {a m i : Nat} (h : i < m) : ixc a m i = a + i := by unfold ixc; rw [if_pos h]
theorem ixc_m {a m i : Nat} : ixc a m (m + i) = a + i := by unfold ixc; rw [if_neg (by omega)]; omega
theorem Ct.pre {P : Int → Int → Bool} {n : Nat} {st : Nat → Nat} {xs ys : Nat → Int} (h : Ct P n st xs ys) {c : Nat} (hc : c ≤ n) : Ct P c st xs ys := by
  have hm := h.mono hc (Nat.le_refl n)
  exact ⟨h.1, fun c' h' => h.2.1 c' (by omega), fun i j hi hj => h.2.2 i j (by omega) (by omega)⟩
/-- how a bend turns -/
def tnV (P : Int → Int → Bool) (x y : Int) : Int := if four P x y = 1 then 1 else -1
/-- on a side, its end left out -/
def OnP (P : Int → Int → Bool) (x y : Int) (n : Nat) (px py : Int) : Prop := ∃ k : Nat, k < n ∧ px = x + k * stepXV (lvd P x y) ∧ py = y + k * stepYV (lvd P x y)
theorem OnP.ed {P : Int → Int → Bool} (hD : NoD P) {x y px py : Int} {n : Nat} (hb : bn P x y = true) (hr : RunN P x y (lvd P x y) n) (h : OnP P x y n px py) : Ed P px py (lvd P x y) := by
  obtain ⟨k, hk, rfl, rfl⟩ := h
  exact RunN.ed hD (bn_lv hD hb) k (fun j j1 j2 => hr.2.1 j j1 (by omega))
/-- a point is on one side only -/
theorem OnP.un {P : Int → Int → Bool} (hD : NoD P) {x y x' y' px py : Int} {n n' : Nat} (hb : bn P x y = true) (hr : RunN P x y (lvd P x y) n) (hb' : bn P x' y' = true) (hr' : RunN P x' y' (lvd P x' y') n') (h : OnP P x y n px py) (h' : OnP P x' y' n' px py) : x = x' ∧ y = y' := by
  have hd : lvd P x y = lvd P x' y' := an_ed hD (h.ed hD hb hr) (h'.ed hD hb' hr')
  obtain ⟨k, hk, ex, ey⟩ := h
  obtain ⟨k', hk', ex', ey'⟩ := h'
  rw [← hd] at ex' ey' hr'
  rcases Nat.lt_trichotomy k k' with g | g | g
  · exfalso
    have := hr'.2.1 (k' - k) (by omega) (by omega)
    have e1 : ((k' - k : Nat) : Int) = k' - k := by omega
    rw [e1, Int.sub_mul, Int.sub_mul] at this
    rw [show x' + ((k' : Int) * stepXV (lvd P x y) - k * stepXV (lvd P x y)) = x by omega, show y' + ((k' : Int) * stepYV (lvd P x y) - k * stepYV (lvd P x y)) = y by omega, hb] at this
    cases this
  · subst g
    omega
  · exfalso
    have := hr.2.1 (k - k') (by omega) (by omega)
    have e1 : ((k - k' : Nat) : Int) = k - k' := by omega
    rw [e1, Int.sub_mul, Int.sub_mul] at this
    rw [show x + ((k : Int) * stepXV (lvd P x y) - k' * stepXV (lvd P x y)) = x' by omega, show y + ((k : Int) * stepYV (lvd P x y) - k' * stepYV (lvd P x y)) = y' by omega, hb'] at this
    cases this
/-- everything that is said of a list of contours with the lengths of the sides -/
def Ctl (P : Int → Int → Bool) (n : Nat) (st : Nat → Nat) (xs ys : Nat → Int) (ln : Nat → Nat) : Prop := InG P ∧ NoD P ∧ Ct P n st xs ys ∧ ∀ i, i < st n → RunN P (xs i) (ys i) (lvd P (xs i) (ys i)) (ln i)
section PG
variable {P : Int → Int → Bool} {n : Nat} {st : Nat → Nat} {xs ys : Nat → Int} {ln : Nat → Nat}
theorem Ctl.in_ (h : Ctl P n st xs ys ln) {c : Nat} (hc : c < n) : st c < st (c + 1) ∧ st (c + 1) ≤ st n := ⟨(h.2.2.1.2.1 c hc).1, h.2.2.1.mono (by omega) (Nat.le_refl n)⟩
theorem Ctl.nxt (h : Ctl P n st xs ys ln) {c m : Nat} (hc : c < n) (hm : st (c + 1) = st c + m) {i : Nat} (hi : i < m) :
    xs (ixc (st c) m (i + 1)) = xs (ixc (st c) m i) + ln (ixc (st c) m i) * stepXV (lvd P (xs (ixc (st c) m i)) (ys (ixc (st c) m i))) ∧ ys (ixc (st c) m (i + 1)) = ys (ixc (st c) m i) + ln (ixc (st c) m i) * stepYV (lvd P (xs (ixc (st c) m i)) (ys (ixc (st c) m i))) := by
  have hi2 := h.in_ hc
  have hN := (h.2.2.1.2.1 c hc).2.1 (st c + i) (by omega) (by omega)
  obtain ⟨k, h1, h2, h3⟩ := hN.2
  have hk := h1.un (h.2.2.2 (st c + i) (by omega))
  subst hk
  have e : nxi (st c) (st (c + 1)) (st c + i) = ixc (st c) m (i + 1) := by
    unfold nxi ixc
    by_cases g : i + 1 < m
    · rw [if_neg (by omega), if_pos g]; omega
    · rw [if_pos (by omega), if_neg g]; omega
  rw [e] at h2 h3
  rw [ixc_lt hi]
  exact ⟨h2, h3⟩
theorem Ctl.lt (h : Ctl P n st xs ys ln) {c m : Nat} (hc : c < n) (hm : st (c + 1) = st c + m) {i : Nat} (hi : i < 2 * m) : st c ≤ ixc (st c) m i ∧ ixc (st c) m i < st (c + 1) ∧ ixc (st c) m i < st n := by
  have hi2 := h.in_ hc
  unfold ixc
  split <;> omega
theorem Ctl.sd (h : Ctl P n st xs ys ln) {c m : Nat} (hc : c < n) (hm : st (c + 1) = st c + m) {i : Nat} (hi : i < m) : Sd (fun i => xs (ixc (st c) m i)) (fun i => ys (ixc (st c) m i)) (fun i => lvd P (xs (ixc (st c) m i)) (ys (ixc (st c) m i))) i := by
  have hlt := h.lt hc hm (i := i) (by omega)
  have hb := h.2.2.1.bend hlt.2.2
  have hl := (h.2.2.2 _ hlt.2.2).1
  obtain ⟨n1, n2⟩ := h.nxt hc hm hi
  have hd := (bn_lv h.2.1 hb).dir
  unfold Sd
  simp only
  rw [n1, n2]
  generalize lvd P (xs (ixc (st c) m i)) (ys (ixc (st c) m i)) = d at *
  rcases step_cases hd with ⟨e, a, b⟩ | ⟨e, a, b⟩ | ⟨e, a, b⟩ | ⟨e, a, b⟩ <;> rw [a, b] <;> omega
/-- a point of a side, its ends too, is on one or the next side, the end left out -/
theorem Ctl.on (h : Ctl P n st xs ys ln) {c m : Nat} (hc : c < n) (hm : st (c + 1) = st c + m) {i : Nat} (hi : i < m) {px py : Int} (k : Nat) (hk : k ≤ ln (ixc (st c) m i)) (ex : px = xs (ixc (st c) m i) + k * stepXV (lvd P (xs (ixc (st c) m i)) (ys (ixc (st c) m i)))) (ey : py = ys (ixc (st c) m i) + k * stepYV (lvd P (xs (ixc (st c) m i)) (ys (ixc (st c) m i)))) : ∃ j, (j = i ∨ j = i + 1) ∧ OnP P (xs (ixc (st c) m j)) (ys (ixc (st c) m j)) (ln (ixc (st c) m j)) px py := by
  by_cases g : k < ln (ixc (st c) m i)
  · exact ⟨i, Or.inl rfl, k, g, ex, ey⟩
  · have e : k = ln (ixc (st c) m i) := by omega
    obtain ⟨n1, n2⟩ := h.nxt hc hm hi
    have hlt := h.lt hc hm (i := i + 1) (by omega)
    refine ⟨i + 1, Or.inr rfl, 0, (h.2.2.2 _ hlt.2.2).1, ?_, ?_⟩
    · rw [n1, ex, e]; simp
    · rw [n2, ey, e]; simp
/-- sides that have a point in common are neighbours -/
theorem Ctl.nb (h : Ctl P n st xs ys ln) {c m : Nat} (hc : c < n) (hm : st (c + 1) = st c + m) {i t : Nat} (hit : i + 2 ≤ t) (ht : t < m) (h0 : ¬ (i = 0 ∧ t + 1 = m)) {px py : Int} {k k' : Nat} (hk : k ≤ ln (ixc (st c) m i)) (ex : px = xs (ixc (st c) m i) + k * stepXV (lvd P (xs (ixc (st c) m i)) (ys (ixc (st c) m i)))) (ey : py = ys (ixc (st c) m i) + k * stepYV (lvd P (xs (ixc (st c) m i)) (ys (ixc (st c) m i)))) (hk' : k' ≤ ln (ixc (st c) m t)) (ex' : px = xs (ixc (st c) m t) + k' * stepXV (lvd P (xs (ixc (st c) m t)) (ys (ixc (st c) m t)))) (ey' : py = ys (ixc (st c) m t) + k' * stepYV (lvd P (xs (ixc (st c) m t)) (ys (ixc (st c) m t)))) : False := by
  obtain ⟨j, hj, o1⟩ := h.on hc hm (by omega) k hk ex ey
  obtain ⟨j', hj', o2⟩ := h.on hc hm ht k' hk' ex' ey'
  have l1 := h.lt hc hm (i := j) (by omega)
  have l2 := h.lt hc hm (i := j') (by omega)
  have e := OnP.un h.2.1 (h.2.2.1.bend l1.2.2) (h.2.2.2 _ l1.2.2) (h.2.2.1.bend l2.2.2) (h.2.2.2 _ l2.2.2) o1 o2
  have e2 := h.2.2.1.2.2 _ _ l1.2.2 l2.2.2 e.1 e.2
  unfold ixc at e2
  split at e2 <;> split at e2 <;> omega
theorem Ctl.nh (h : Ctl P n st xs ys ln) {c m : Nat} (hc : c < n) (hm : st (c + 1) = st c + m) {i t : Nat} (hi : i < m) (ht : t < m) (hd : (i + 2 ≤ t ∧ ¬ (i = 0 ∧ t + 1 = m)) ∨ (t + 2 ≤ i ∧ ¬ (t = 0 ∧ i + 1 = m))) : NH (fun i => xs (ixc (st c) m i)) (fun i => ys (ixc (st c) m i)) i t := by
  intro a b hx
  have a : ys (ixc (st c) m (i + 1)) = ys (ixc (st c) m i) := a
  have b : xs (ixc (st c) m (t + 1)) = xs (ixc (st c) m t) := b
  have hx : (xs (ixc (st c) m i) ≤ xs (ixc (st c) m t) ∧ xs (ixc (st c) m t) ≤ xs (ixc (st c) m (i + 1)) ∨ xs (ixc (st c) m (i + 1)) ≤ xs (ixc (st c) m t) ∧ xs (ixc (st c) m t) ≤ xs (ixc (st c) m i)) ∧ (ys (ixc (st c) m t) ≤ ys (ixc (st c) m i) ∧ ys (ixc (st c) m i) ≤ ys (ixc (st c) m (t + 1)) ∨ ys (ixc (st c) m (t + 1)) ≤ ys (ixc (st c) m i) ∧ ys (ixc (st c) m i) ≤ ys (ixc (st c) m t)) := hx
  obtain ⟨n1, n2⟩ := h.nxt hc hm hi
  obtain ⟨n3, n4⟩ := h.nxt hc hm ht
  have l1 := h.lt hc hm (i := i) (by omega)
  have l2 := h.lt hc hm (i := t) (by omega)
  have q1 := (h.2.2.2 _ l1.2.2).1
  have q2 := (h.2.2.2 _ l2.2.2).1
  have s1 := step_cases (bn_lv h.2.1 (h.2.2.1.bend l1.2.2)).dir
  have s2 := step_cases (bn_lv h.2.1 (h.2.2.1.bend l2.2.2)).dir
  -- the common point
  have k1 : ∃ k : Nat, k ≤ ln (ixc (st c) m i) ∧ xs (ixc (st c) m t) = xs (ixc (st c) m i) + k * stepXV (lvd P (xs (ixc (st c) m i)) (ys (ixc (st c) m i))) ∧ ys (ixc (st c) m i) = ys (ixc (st c) m i) + k * stepYV (lvd P (xs (ixc (st c) m i)) (ys (ixc (st c) m i))) := by
    rcases s1 with ⟨-, u, v⟩ | ⟨-, u, v⟩ | ⟨-, u, v⟩ | ⟨-, u, v⟩ <;> rw [u] at n1 ⊢ <;> rw [v] at n2 ⊢
    · exact ⟨(xs (ixc (st c) m t) - xs (ixc (st c) m i)).toNat, by omega, by omega, by omega⟩
    · exfalso; omega
    · exact ⟨(xs (ixc (st c) m i) - xs (ixc (st c) m t)).toNat, by omega, by omega, by omega⟩
    · exfalso; omega
  have k2 : ∃ k : Nat, k ≤ ln (ixc (st c) m t) ∧ xs (ixc (st c) m t) = xs (ixc (st c) m t) + k * stepXV (lvd P (xs (ixc (st c) m t)) (ys (ixc (st c) m t))) ∧ ys (ixc (st c) m i) = ys (ixc (st c) m t) + k * stepYV (lvd P (xs (ixc (st c) m t)) (ys (ixc (st c) m t))) := by
    rcases s2 with ⟨-, u, v⟩ | ⟨-, u, v⟩ | ⟨-, u, v⟩ | ⟨-, u, v⟩ <;> rw [u] at n3 ⊢ <;> rw [v] at n4 ⊢
    · exfalso; omega
    · exact ⟨(ys (ixc (st c) m i) - ys (ixc (st c) m t)).toNat, by omega, by omega, by omega⟩
    · exfalso; omega
    · exact ⟨(ys (ixc (st c) m t) - ys (ixc (st c) m i)).toNat, by omega, by omega, by omega⟩
  obtain ⟨k, a1, a2, a3⟩ := k1
  obtain ⟨k', b1, b2, b3⟩ := k2
  rcases hd with ⟨d1, d2⟩ | ⟨d1, d2⟩
  · exact h.nb hc hm d1 ht d2 a1 a2 a3 b1 b2 b3
  · exact h.nb hc hm d1 hi d2 b1 b2 b3 a1 a2 a3
/-- the start comes first -/
theorem Ctl.least (h : Ctl P n st xs ys ln) {c m : Nat} (hc : c < n) (hm : st (c + 1) = st c + m) {i : Nat} (h0 : 0 < i) (hi : i < m) : ys (st c) < ys (st c + i) ∨ ys (st c + i) = ys (st c) ∧ xs (st c) < xs (st c + i) := by
  have hi2 := h.in_ hc
  have b1 := bn_in h.1 (h.2.2.1.bend (i := st c) (by omega))
  have b2 := bn_in h.1 (h.2.2.1.bend (i := st c + i) (by omega))
  have hk : ¬ kxy (xs (st c + i)) (ys (st c + i)) < kxy (xs (st c)) (ys (st c)) := by
    intro g
    obtain ⟨j, j1, j2, j3⟩ := (h.2.2.1.2.1 c hc).2.2 _ _ (h.2.2.1.bend (i := st c + i) (by omega)) g
    have := h.2.2.1.2.2 j (st c + i) (by omega) (by omega) j2 j3
    omega
  have hne : ¬ (xs (st c + i) = xs (st c) ∧ ys (st c + i) = ys (st c)) := by
    intro g
    have := h.2.2.1.2.2 (st c + i) (st c) (by omega) (by omega) g.1 g.2
    omega
  unfold kxy at hk
  omega
theorem Ctl.tn (h : Ctl P n st xs ys ln) {c m : Nat} (hc : c < n) (hm : st (c + 1) = st c + m) {i : Nat} (hi : i < m) : (four P (xs (ixc (st c) m (i + 1))) (ys (ixc (st c) m (i + 1))) = 1 → lvd P (xs (ixc (st c) m (i + 1))) (ys (ixc (st c) m (i + 1))) = (lvd P (xs (ixc (st c) m i)) (ys (ixc (st c) m i)) + 1) % 4) ∧ (four P (xs (ixc (st c) m (i + 1))) (ys (ixc (st c) m (i + 1))) ≠ 1 → lvd P (xs (ixc (st c) m (i + 1))) (ys (ixc (st c) m (i + 1))) = (lvd P (xs (ixc (st c) m i)) (ys (ixc (st c) m i)) + 3) % 4) := by
  obtain ⟨n1, n2⟩ := h.nxt hc hm hi
  have l1 := h.lt hc hm (i := i) (by omega)
  have l2 := h.lt hc hm (i := i + 1) (by omega)
  have hE := RunN.ei h.2.1 (bn_lv h.2.1 (h.2.2.1.bend l1.2.2)) (h.2.2.2 _ l1.2.2)
  rw [← n1, ← n2] at hE
  exact ei_lv hE (h.2.2.1.bend l2.2.2)
/-- the contour's start: outer or hole -/
theorem Ctl.start (h : Ctl P n st xs ys ln) {c m : Nat} (hc : c < n) (hm : st (c + 1) = st c + m) (h4 : 4 ≤ m) : (lvd P (xs (st c)) (ys (st c)) = 0 ∧ lvd P (xs (ixc (st c) m (m - 1))) (ys (ixc (st c) m (m - 1))) = 3 ∧ four P (xs (st c)) (ys (st c)) = 1 ∧ P (xs (st c)) (ys (st c)) = true) ∨ (lvd P (xs (st c)) (ys (st c)) = 1 ∧ lvd P (xs (ixc (st c) m (m - 1))) (ys (ixc (st c) m (m - 1))) = 2 ∧ four P (xs (st c)) (ys (st c)) ≠ 1 ∧ P (xs (st c) - 1) (ys (st c)) = true) := by
  have hi2 := h.in_ hc
  have hb := h.2.2.1.bend (i := st c) (by omega)
  have hu : ∀ j, j < st c → ¬ (xs j = xs (st c) ∧ ys j = ys (st c)) := fun j hj g => by
    have := h.2.2.1.2.2 j (st c) (by omega) (by omega) g.1 g.2
    omega
  have hf := first_dir h.1 h.2.1 (h.2.2.1.pre (by omega : c ≤ n)) hb hu (h.2.2.1.2.1 c hc).2.2
  have ht := h.tn hc hm (i := m - 1) (by omega)
  have hs := h.sd hc hm (i := m - 1) (by omega)
  have hl := h.least hc hm (i := m - 1) (by omega) (by omega)
  have e1 : m - 1 + 1 = m + 0 := by omega
  unfold Sd at hs
  simp only at hs
  rw [e1, ixc_m, Nat.add_zero] at ht hs
  rw [ixc_lt (show m - 1 < m by omega)] at *
  by_cases g : four P (xs (st c)) (ys (st c)) = 1
  · have k := ht.1 g
    rcases hf with ⟨f1, f2⟩ | ⟨f1, f2, f3⟩
    · exact Or.inl ⟨f1, by omega, g, f2⟩
    · exfalso; omega
  · have k := ht.2 g
    rcases hf with ⟨f1, f2⟩ | ⟨f1, f2, f3⟩
    · exfalso; omega
    · exact Or.inr ⟨f1, by omega, g, f3⟩
/-- A CONTOUR TURNS ONCE AROUND -/
theorem Ctl.turned (h : Ctl P n st xs ys ln) {c m : Nat} (hc : c < n) (hm : st (c + 1) = st c + m) (h4 : 4 ≤ m) : sumN (fun i => tnV P (xs (st c + i)) (ys (st c + i))) m = 4 - 8 * hol P (xs (st c)) (ys (st c)) := by
  have hT : ∀ i, i + 1 < m → tnV P (xs (ixc (st c) m (i + 1))) (ys (ixc (st c) m (i + 1))) = 1 ∧ lvd P (xs (ixc (st c) m (i + 1))) (ys (ixc (st c) m (i + 1))) = (lvd P (xs (ixc (st c) m i)) (ys (ixc (st c) m i)) + 1) % 4 ∨ tnV P (xs (ixc (st c) m (i + 1))) (ys (ixc (st c) m (i + 1))) = -1 ∧ lvd P (xs (ixc (st c) m (i + 1))) (ys (ixc (st c) m (i + 1))) = (lvd P (xs (ixc (st c) m i)) (ys (ixc (st c) m i)) + 3) % 4 := by
    intro i hi
    have ht := h.tn hc hm (i := i) (by omega)
    by_cases g : four P (xs (ixc (st c) m (i + 1))) (ys (ixc (st c) m (i + 1))) = 1
    · exact Or.inl ⟨by unfold tnV; rw [if_pos g], ht.1 g⟩
    · exact Or.inr ⟨by unfold tnV; rw [if_neg g], ht.2 g⟩
  have em : ixc (st c) m m = st c := by have := ixc_m (a := st c) (m := m) (i := 0); rwa [Nat.add_zero, Nat.add_zero] at this
  have e0 : ixc (st c) m 0 = st c := ixc_lt (by omega)
  have H := hopf (X := fun i => xs (ixc (st c) m i)) (Y := fun i => ys (ixc (st c) m i)) (D := fun i => lvd P (xs (ixc (st c) m i)) (ys (ixc (st c) m i))) (m := m) h4 (fun i hi => h.sd hc hm hi) (by show xs (ixc (st c) m m) = xs (ixc (st c) m 0); rw [em, e0]) (by show ys (ixc (st c) m m) = ys (ixc (st c) m 0); rw [em, e0])
    (fun i t h1 h2 h3 => ⟨h.nh hc hm (by omega) h2 (Or.inl ⟨h1, h3⟩), h.nh hc hm h2 (by omega) (Or.inr ⟨h1, h3⟩)⟩)
    (fun i h1 h2 => by show ys (ixc (st c) m 0) < ys (ixc (st c) m i) ∨ ys (ixc (st c) m i) = ys (ixc (st c) m 0) ∧ xs (ixc (st c) m 0) < xs (ixc (st c) m i); rw [e0, ixc_lt h2]; exact h.least hc hm h1 h2)
    (T := fun i => tnV P (xs (ixc (st c) m (i + 1))) (ys (ixc (st c) m (i + 1)))) hT
  have H0 : (lvd P (xs (ixc (st c) m 0)) (ys (ixc (st c) m 0)) = 0 → lvd P (xs (ixc (st c) m (m - 1))) (ys (ixc (st c) m (m - 1))) = 3 → sumN (fun i => tnV P (xs (ixc (st c) m (i + 1))) (ys (ixc (st c) m (i + 1)))) (m - 1) = 3) ∧ (lvd P (xs (ixc (st c) m 0)) (ys (ixc (st c) m 0)) = 1 → lvd P (xs (ixc (st c) m (m - 1))) (ys (ixc (st c) m (m - 1))) = 2 → sumN (fun i => tnV P (xs (ixc (st c) m (i + 1))) (ys (ixc (st c) m (i + 1)))) (m - 1) = -3) := H
  rw [e0] at H0
  have hh := sumN_head (fun i => tnV P (xs (st c + i)) (ys (st c + i))) (m - 1)
  rw [show m - 1 + 1 = m by omega] at hh
  have hc2 : sumN (fun q => tnV P (xs (st c + (1 + q))) (ys (st c + (1 + q)))) (m - 1) = sumN (fun i => tnV P (xs (ixc (st c) m (i + 1))) (ys (ixc (st c) m (i + 1)))) (m - 1) := sumN_congr fun k hk => by
    rw [ixc_lt (show k + 1 < m by omega), Nat.add_comm 1 k]
  rw [hh]
  show tnV P (xs (st c + 0)) (ys (st c + 0)) + sumN (fun q => tnV P (xs (st c + (1 + q))) (ys (st c + (1 + q)))) (m - 1) = _
  rw [hc2, Nat.add_zero]
  unfold tnV
  rcases h.start hc hm h4 with ⟨a, b, d, -⟩ | ⟨a, b, d, -⟩
  · have := H0.1 a b
    unfold tnV at this
    rw [if_pos d, this, hol_v.1 a]
    rfl
  · have := H0.2 a b
    unfold tnV at this
    rw [if_neg d, this, hol_v.2 a]
    rfl
end PG

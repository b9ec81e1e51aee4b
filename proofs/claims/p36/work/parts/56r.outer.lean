/-! a component has one outer contour -/
theorem ed_ei' {P : Int → Int → Bool} (hD : NoD P) {x y d : Int} (h : Ed P x y d) (hb : bn P x y = false) : Ei P x y d := by
  have h1 := hD x y
  unfold bn at hb
  unfold Ed at h
  unfold Ei
  revert hb h1 h
  cases P (x - 1) (y - 1) <;> cases P x (y - 1) <;> cases P (x - 1) y <;> cases P x y <;> simp <;> omega
theorem ei_back {P : Int → Int → Bool} {x y d : Int} (h : Ei P x y d) : Ed P (x - stepXV d) (y - stepYV d) d := by
  rcases h with ⟨rfl, a, b⟩ | ⟨rfl, a, b⟩ | ⟨rfl, a, b⟩ | ⟨rfl, a, b⟩
  · rw [show x - stepXV 0 = x - 1 by simp [stepXV], show y - stepYV 0 = y by simp [stepYV]]
    exact Or.inl ⟨rfl, a, b⟩
  · rw [show x - stepXV 1 = x by simp [stepXV], show y - stepYV 1 = y - 1 by simp [stepYV]]
    exact Or.inr (Or.inl ⟨rfl, a, b⟩)
  · rw [show x - stepXV 2 = x + 1 by simp [stepXV], show y - stepYV 2 = y by simp [stepYV]]
    refine Or.inr (Or.inr (Or.inl ⟨rfl, ?_, ?_⟩))
    · rw [show x + 1 - 1 = x by omega]; exact a
    · rw [show x + 1 - 1 = x by omega]; exact b
  · rw [show x - stepXV 3 = x by simp [stepXV], show y - stepYV 3 = y + 1 by simp [stepYV]]
    refine Or.inr (Or.inr (Or.inr ⟨rfl, ?_, ?_⟩))
    · rw [show y + 1 - 1 = y by omega]; exact a
    · rw [show y + 1 - 1 = y by omega]; exact b
theorem Ed.r0 {P : Int → Int → Bool} {x y d : Int} (h : Ed P x y d) (e : d = 0) : P x y = true ∧ P x (y - 1) = false := by
  rcases h with ⟨a, b⟩ | ⟨a, b⟩ | ⟨a, b⟩ | ⟨a, b⟩
  · exact b
  · omega
  · omega
  · omega
theorem Ed.r1 {P : Int → Int → Bool} {x y d : Int} (h : Ed P x y d) (e : d = 1) : P (x - 1) y = true ∧ P x y = false := by
  rcases h with ⟨a, b⟩ | ⟨a, b⟩ | ⟨a, b⟩ | ⟨a, b⟩
  · omega
  · exact b
  · omega
  · omega
theorem Ed.r2 {P : Int → Int → Bool} {x y d : Int} (h : Ed P x y d) (e : d = 2) : P (x - 1) (y - 1) = true ∧ P (x - 1) y = false := by
  rcases h with ⟨a, b⟩ | ⟨a, b⟩ | ⟨a, b⟩ | ⟨a, b⟩
  · omega
  · omega
  · exact b
  · omega
theorem Ed.r3 {P : Int → Int → Bool} {x y d : Int} (h : Ed P x y d) (e : d = 3) : P x (y - 1) = true ∧ P (x - 1) (y - 1) = false := by
  rcases h with ⟨a, b⟩ | ⟨a, b⟩ | ⟨a, b⟩ | ⟨a, b⟩
  · omega
  · omega
  · omega
  · exact b
/-- the cell to the left of a boundary -/
def lcX (d x : Int) : Int := if d = 1 ∨ d = 2 then x - 1 else x
def lcY (d y : Int) : Int := if d = 2 ∨ d = 3 then y - 1 else y
theorem lc_in {P : Int → Int → Bool} {x y d : Int} (h : Ed P x y d) : P (lcX d x) (lcY d y) = true := by
  rcases h with ⟨rfl, a, b⟩ | ⟨rfl, a, b⟩ | ⟨rfl, a, b⟩ | ⟨rfl, a, b⟩ <;> simpa [lcX, lcY] using a
/-- cells around a bend hang together -/
theorem around {P : Int → Int → Bool} (hg : InG P) {x y : Int} (hb : bn P x y = true) {a b a' b' : Int} (ha : a = x - 1 ∨ a = x) (hbb : b = y - 1 ∨ b = y) (ha' : a' = x - 1 ∨ a' = x) (hb' : b' = y - 1 ∨ b' = y) (h1 : P a b = true) (h2 : P a' b' = true) : Cn (cp P) ad (cid a b) (cid a' b') := by
  have row : ∀ {a a' b : Int}, (a = x - 1 ∨ a = x) → (a' = x - 1 ∨ a' = x) → P a b = true → P a' b = true → Cn (cp P) ad (cid a b) (cid a' b) := fun {a a' b} e e' p p' => row_cn hg fun i hi => by
    have : i = a ∨ i = a' := by omega
    rcases this with rfl | rfl
    · exact p
    · exact p'
  have col : ∀ {a b b' : Int}, (b = y - 1 ∨ b = y) → (b' = y - 1 ∨ b' = y) → P a b = true → P a b' = true → Cn (cp P) ad (cid a b) (cid a b') := fun {a b b'} e e' p p' => col_cn hg fun i hi => by
    have : i = b ∨ i = b' := by omega
    rcases this with rfl | rfl
    · exact p
    · exact p'
  have third : P a' b = true ∨ P a b' = true := by
    unfold bn at hb
    rcases ha with e1 | e1 <;> rcases hbb with e2 | e2 <;> rcases ha' with e3 | e3 <;> rcases hb' with e4 | e4 <;> rw [e1, e2] at h1 <;> rw [e3, e4] at h2 <;> rw [e1, e2, e3, e4] <;> (revert hb h1 h2; cases P (x - 1) (y - 1) <;> cases P x (y - 1) <;> cases P (x - 1) y <;> cases P x y <;> simp)
  rcases third with t | t
  · exact (row ha ha' h1 t).tr (col hbb hb' t h2)
  · exact (col hbb hb' h1 t).tr (row ha ha' t h2)
/-- along a side and round its end -/
theorem lc_next {P : Int → Int → Bool} (hg : InG P) (hD : NoD P) {x y x' y' : Int} {n : Nat} (hb : bn P x y = true) (hr : RunN P x y (lvd P x y) n) (ex : x' = x + n * stepXV (lvd P x y)) (ey : y' = y + n * stepYV (lvd P x y)) : Cn (cp P) ad (cid (lcX (lvd P x y) x) (lcY (lvd P x y) y)) (cid (lcX (lvd P x' y') x') (lcY (lvd P x' y') y')) := by
  have hE := fun k (hk : k < n) => RunN.ed hD (bn_lv hD hb) k (fun j j1 j2 => hr.2.1 j j1 (by omega))
  have hb' : bn P x' y' = true := by rw [ex, ey]; exact hr.2.2
  have h0 := hr.1
  have hin := lc_in (bn_lv hD hb')
  have r1 : lcX (lvd P x' y') x' = x' - 1 ∨ lcX (lvd P x' y') x' = x' := by unfold lcX; split <;> omega
  have r2 : lcY (lvd P x' y') y' = y' - 1 ∨ lcY (lvd P x' y') y' = y' := by unfold lcY; split <;> omega
  rcases step_cases (bn_lv hD hb).dir with ⟨e, a, b⟩ | ⟨e, a, b⟩ | ⟨e, a, b⟩ | ⟨e, a, b⟩
  · rw [a] at ex
    rw [b] at ey
    have row : ∀ i : Int, x ≤ i → i ≤ x + n - 1 → P i y = true := fun i i1 i2 => by
      have := (hE (i - x).toNat (by omega)).r0 e
      rw [a, b] at this
      rw [show x + (((i - x).toNat : Nat) : Int) * 1 = i by omega, show y + (((i - x).toNat : Nat) : Int) * 0 = y by omega] at this
      exact this.1
    have c1 : Cn (cp P) ad (cid x y) (cid (x + n - 1) y) := row_cn hg fun i hi => row i (by omega) (by omega)
    have c2 := around hg hb' (a := x + n - 1) (b := y) (Or.inl (by omega)) (Or.inr (by omega)) r1 r2 (row _ (by omega) (by omega)) hin
    rw [show lcX (lvd P x y) x = x by unfold lcX; rw [if_neg (by omega)], show lcY (lvd P x y) y = y by unfold lcY; rw [if_neg (by omega)]]
    exact c1.tr c2
  · rw [a] at ex
    rw [b] at ey
    have col : ∀ i : Int, y ≤ i → i ≤ y + n - 1 → P (x - 1) i = true := fun i i1 i2 => by
      have := (hE (i - y).toNat (by omega)).r1 e
      rw [a, b] at this
      rw [show x + (((i - y).toNat : Nat) : Int) * 0 = x by omega, show y + (((i - y).toNat : Nat) : Int) * 1 = i by omega] at this
      exact this.1
    have c1 : Cn (cp P) ad (cid (x - 1) y) (cid (x - 1) (y + n - 1)) := col_cn hg fun i hi => col i (by omega) (by omega)
    have c2 := around hg hb' (a := x - 1) (b := y + n - 1) (Or.inl (by omega)) (Or.inl (by omega)) r1 r2 (col _ (by omega) (by omega)) hin
    rw [show lcX (lvd P x y) x = x - 1 by unfold lcX; rw [if_pos (by omega)], show lcY (lvd P x y) y = y by unfold lcY; rw [if_neg (by omega)]]
    exact c1.tr c2
  · rw [a] at ex
    rw [b] at ey
    have row : ∀ i : Int, x - n ≤ i → i ≤ x - 1 → P i (y - 1) = true := fun i i1 i2 => by
      have := (hE (x - 1 - i).toNat (by omega)).r2 e
      rw [a, b] at this
      rw [show x + (((x - 1 - i).toNat : Nat) : Int) * (-1) - 1 = i by omega, show y + (((x - 1 - i).toNat : Nat) : Int) * 0 = y by omega] at this
      exact this.1
    have c1 : Cn (cp P) ad (cid (x - 1) (y - 1)) (cid (x - n) (y - 1)) := row_cn hg fun i hi => row i (by omega) (by omega)
    have c2 := around hg hb' (a := x - n) (b := y - 1) (Or.inr (by omega)) (Or.inl (by omega)) r1 r2 (row _ (by omega) (by omega)) hin
    rw [show lcX (lvd P x y) x = x - 1 by unfold lcX; rw [if_pos (by omega)], show lcY (lvd P x y) y = y - 1 by unfold lcY; rw [if_pos (by omega)]]
    exact c1.tr c2
  · rw [a] at ex
    rw [b] at ey
    have col : ∀ i : Int, y - n ≤ i → i ≤ y - 1 → P x i = true := fun i i1 i2 => by
      have := (hE (y - 1 - i).toNat (by omega)).r3 e
      rw [a, b] at this
      rw [show x + (((y - 1 - i).toNat : Nat) : Int) * 0 = x by omega, show y + (((y - 1 - i).toNat : Nat) : Int) * (-1) - 1 = i by omega] at this
      exact this.1
    have c1 : Cn (cp P) ad (cid x (y - 1)) (cid x (y - n)) := col_cn hg fun i hi => col i (by omega) (by omega)
    have c2 := around hg hb' (a := x) (b := y - n) (Or.inr (by omega)) (Or.inr (by omega)) r1 r2 (col _ (by omega) (by omega)) hin
    rw [show lcX (lvd P x y) x = x by unfold lcX; rw [if_neg (by omega)], show lcY (lvd P x y) y = y - 1 by unfold lcY; rw [if_pos (by omega)]]
    exact c1.tr c2
/-! inside and outside a contour, by counting -/
def vsI (X Y : Nat → Int) (cx cy : Int) (i : Nat) : Int := if X (i + 1) = X i ∧ cx < X i ∧ (Y i ≤ cy ∧ cy < Y (i + 1) ∨ Y (i + 1) ≤ cy ∧ cy < Y i) then 1 else 0
def hsI (X Y : Nat → Int) (cx cy : Int) (i : Nat) : Int := if Y (i + 1) = Y i ∧ Y i = cy ∧ (X i ≤ cx ∧ cx < X (i + 1) ∨ X (i + 1) ≤ cx ∧ cx < X i) then 1 else 0
def gI (X Y : Nat → Int) (cx cy : Int) (i : Nat) : Int := if Y i = cy ∧ cx < X i then 1 else 0
def parI (X Y : Nat → Int) (m : Nat) (cx cy : Int) : Int := sumN (vsI X Y cx cy) m
theorem par_v {X Y D : Nat → Int} {m : Nat} (hs : ∀ i, i < m → Sd X Y D i) (hX : X m = X 0) (hY : Y m = Y 0) (cx cy : Int) : (parI X Y m cx cy + parI X Y m cx (cy - 1) + sumN (hsI X Y cx cy) m) % 2 = 0 := by
  have one : ∀ i, i < m → (((vsI X Y cx cy i + vsI X Y cx (cy - 1) i) + hsI X Y cx cy i) + (gI X Y cx cy i + gI X Y cx cy (i + 1))) % 2 = 0 := by
    intro i hi
    unfold vsI hsI gI
    rcases hs i hi with ⟨-, a, b⟩ | ⟨-, a, b⟩ | ⟨-, a, b⟩ | ⟨-, a, b⟩
    · rw [if_neg (by omega), if_neg (by omega)]
      split <;> split <;> split <;> omega
    · rw [if_neg (c := Y (i + 1) = Y i ∧ _) (by omega)]
      split <;> split <;> split <;> split <;> omega
    · rw [if_neg (by omega), if_neg (by omega)]
      split <;> split <;> split <;> omega
    · rw [if_neg (c := Y (i + 1) = Y i ∧ _) (by omega)]
      split <;> split <;> split <;> split <;> omega
  have ev := sumN_ev one
  rw [sumN_add, sumN_add, sumN_add, sumN_add, sumN_sh] at ev
  have gm : gI X Y cx cy m = gI X Y cx cy 0 := by unfold gI; rw [hX, hY]
  unfold parI
  omega
theorem par_h {X Y : Nat → Int} {m : Nat} {cx cy : Int} (h : ∀ i, i < m → ¬ (X (i + 1) = X i ∧ X i = cx ∧ (Y i ≤ cy ∧ cy < Y (i + 1) ∨ Y (i + 1) ≤ cy ∧ cy < Y i))) : parI X Y m (cx - 1) cy = parI X Y m cx cy := by
  unfold parI
  refine sumN_congr fun i hi => ?_
  have := h i hi
  unfold vsI
  split <;> split <;> omega
section OU
variable {P : Int → Int → Bool} {n : Nat} {st : Nat → Nat} {xs ys : Nat → Int} {ln : Nat → Nat}
theorem Ctl.ed (h : Ctl P n st xs ys ln) {j : Nat} (hj : j < st n) {k : Nat} (hk : k < ln j) : Ed P (xs j + k * stepXV (lvd P (xs j) (ys j))) (ys j + k * stepYV (lvd P (xs j) (ys j))) (lvd P (xs j) (ys j)) := RunN.ed h.2.1 (bn_lv h.2.1 (h.2.2.1.bend hj)) k (fun r r1 r2 => (h.2.2.2 j hj).2.1 r r1 (by omega))
/-- every piece of the boundary lies on a side -/
theorem Ctl.cover (h : Ctl P n st xs ys ln) (hf : ∀ x y, bn P x y = true → ∃ j, j < st n ∧ xs j = x ∧ ys j = y) {x y d : Int} (hE : Ed P x y d) : ∃ i k : Nat, i < st n ∧ lvd P (xs i) (ys i) = d ∧ k < ln i ∧ x = xs i + k * stepXV d ∧ y = ys i + k * stepYV d := by
  have back : ∀ j : Nat, (∃ r : Nat, r ≤ j ∧ bn P (x - r * stepXV d) (y - r * stepYV d) = true ∧ Ed P (x - r * stepXV d) (y - r * stepYV d) d ∧ ∀ q : Nat, q < r → bn P (x - q * stepXV d) (y - q * stepYV d) = false) ∨ (Ed P (x - ((j + 1 : Nat) : Int) * stepXV d) (y - ((j + 1 : Nat) : Int) * stepYV d) d ∧ ∀ q : Nat, q ≤ j → bn P (x - q * stepXV d) (y - q * stepYV d) = false) := by
    have stp : ∀ j : Nat, Ed P (x - j * stepXV d) (y - j * stepYV d) d → bn P (x - j * stepXV d) (y - j * stepYV d) = false → Ed P (x - ((j + 1 : Nat) : Int) * stepXV d) (y - ((j + 1 : Nat) : Int) * stepYV d) d := fun j e g => by
      have := ei_back (ed_ei' h.2.1 e g)
      rwa [show x - (j : Int) * stepXV d - stepXV d = x - ((j + 1 : Nat) : Int) * stepXV d by rw [Int.natCast_add, Int.add_mul]; omega, show y - (j : Int) * stepYV d - stepYV d = y - ((j + 1 : Nat) : Int) * stepYV d by rw [Int.natCast_add, Int.add_mul]; omega] at this
    intro j
    induction j with
    | zero =>
      have e0 : Ed P (x - ((0 : Nat) : Int) * stepXV d) (y - ((0 : Nat) : Int) * stepYV d) d := by
        rw [show x - ((0 : Nat) : Int) * stepXV d = x by simp, show y - ((0 : Nat) : Int) * stepYV d = y by simp]
        exact hE
      cases g : bn P (x - ((0 : Nat) : Int) * stepXV d) (y - ((0 : Nat) : Int) * stepYV d) with
      | true => exact Or.inl ⟨0, Nat.le_refl 0, g, e0, fun q hq => absurd hq (Nat.not_lt_zero q)⟩
      | false => exact Or.inr ⟨stp 0 e0 g, fun q hq => by rw [show q = 0 by omega]; exact g⟩
    | succ j ih =>
      rcases ih with ⟨r, r1, r2⟩ | ⟨e, f⟩
      · exact Or.inl ⟨r, by omega, r2⟩
      · cases g : bn P (x - ((j + 1 : Nat) : Int) * stepXV d) (y - ((j + 1 : Nat) : Int) * stepYV d) with
        | true => exact Or.inl ⟨j + 1, Nat.le_refl _, g, e, fun q hq => f q (by omega)⟩
        | false => exact Or.inr ⟨stp (j + 1) e g, fun q hq => by
            by_cases e : q = j + 1
            · rw [e]; exact g
            · exact f q (by omega)⟩
  rcases back 49 with ⟨r, -, b, e, f⟩ | ⟨e, -⟩
  · obtain ⟨i, i1, i2, i3⟩ := hf _ _ b
    have hd : lvd P (xs i) (ys i) = d := by rw [i2, i3]; exact bn_ed b (bn_lv h.2.1 b) e
    have hr := h.2.2.2 i i1
    refine ⟨i, r, i1, hd, ?_, by rw [i2]; omega, by rw [i3]; omega⟩
    refine Nat.lt_of_not_le fun g => ?_
    have h0 := hr.1
    have hb := hr.2.2
    rw [hd, i2, i3] at hb
    have := f (r - ln i) (by omega)
    rw [show ((r - ln i : Nat) : Int) = r - ln i by omega, Int.sub_mul, Int.sub_mul] at this
    rw [show x - ((r : Int) * stepXV d - ln i * stepXV d) = x - r * stepXV d + ln i * stepXV d by omega, show y - ((r : Int) * stepYV d - ln i * stepYV d) = y - r * stepYV d + ln i * stepYV d by omega, hb] at this
    cases this
  · exfalso
    have k1 := hE.inn h.1
    have k2 := e.inn h.1
    rcases step_cases hE.dir with ⟨-, u, v⟩ | ⟨-, u, v⟩ | ⟨-, u, v⟩ | ⟨-, u, v⟩ <;> rw [u, v] at k2 <;> omega
/-- all of a contour runs along one component -/
theorem Ctl.chain (h : Ctl P n st xs ys ln) {c m : Nat} (hc : c < n) (hm : st (c + 1) = st c + m) : ∀ i, i < m → Cn (cp P) ad (cid (lcX (lvd P (xs (st c)) (ys (st c))) (xs (st c))) (lcY (lvd P (xs (st c)) (ys (st c))) (ys (st c)))) (cid (lcX (lvd P (xs (st c + i)) (ys (st c + i))) (xs (st c + i))) (lcY (lvd P (xs (st c + i)) (ys (st c + i))) (ys (st c + i)))) := by
  intro i
  induction i with
  | zero => intro _; exact Cn.rf _
  | succ i ih =>
    intro hi
    have l1 := h.lt hc hm (i := i) (by omega)
    obtain ⟨n1, n2⟩ := h.nxt hc hm (i := i) (by omega)
    rw [ixc_lt (show i < m by omega)] at l1 n1 n2
    rw [ixc_lt hi] at n1 n2
    exact (ih (by omega)).tr (lc_next h.1 h.2.1 (h.2.2.1.bend l1.2.2) (h.2.2.2 _ l1.2.2) n1 n2)
/-- an outer contour starts at its component's first cell -/
theorem Ctl.fi (h : Ctl P n st xs ys ln) {c m : Nat} (hc : c < n) (hm : st (c + 1) = st c + m) (h4 : 4 ≤ m) (ho : lvd P (xs (st c)) (ys (st c)) = 0) : Fi (cp P) ad (cid (xs (st c)) (ys (st c))) := by
  have hst := h.start hc hm h4
  have hst : lvd P (xs (ixc (st c) m (m - 1))) (ys (ixc (st c) m (m - 1))) = 3 ∧ P (xs (st c)) (ys (st c)) = true := by
    rcases hst with ⟨-, a, -, b⟩ | ⟨a, -⟩
    · exact ⟨a, b⟩
    · omega
  have em : ixc (st c) m m = st c := by have := ixc_m (a := st c) (m := m) (i := 0); rwa [Nat.add_zero, Nat.add_zero] at this
  have e0 : ixc (st c) m 0 = st c := ixc_lt (by omega)
  have rg := h.1 _ _ hst.2
  generalize hX : (fun i => xs (ixc (st c) m i)) = X
  generalize hY : (fun i => ys (ixc (st c) m i)) = Y
  generalize hDD : (fun i => lvd P (xs (ixc (st c) m i)) (ys (ixc (st c) m i))) = D
  have hXi : ∀ i, X i = xs (ixc (st c) m i) := fun i => by rw [← hX]
  have hYi : ∀ i, Y i = ys (ixc (st c) m i) := fun i => by rw [← hY]
  have hDi : ∀ i, D i = lvd P (xs (ixc (st c) m i)) (ys (ixc (st c) m i)) := fun i => by rw [← hDD]
  have hs : ∀ i, i < m → Sd X Y D i := fun i hi => by rw [← hX, ← hY, ← hDD]; exact h.sd hc hm hi
  have hXm : X m = X 0 := by rw [hXi, hXi, em, e0]
  have hYm : Y m = Y 0 := by rw [hYi, hYi, em, e0]
  have hX0 : X 0 = xs (st c) := by rw [hXi, e0]
  have hY0 : Y 0 = ys (st c) := by rw [hYi, e0]
  have hl : ∀ i, 0 < i → i < m → Y 0 < Y i ∨ Y i = Y 0 ∧ X 0 < X i := fun i h1 h2 => by
    rw [hX0, hY0, hXi, hYi, ixc_lt h2]
    exact h.least hc hm h1 h2
  have hlY : ∀ i, i ≤ m → Y 0 ≤ Y i := fun i hi => by
    by_cases g : i = 0
    · rw [g]; exact Int.le_refl _
    · by_cases g2 : i = m
      · rw [g2, hYm]; exact Int.le_refl _
      · have := hl i (by omega) (by omega); omega
  have hlX : ∀ i, i ≤ m → Y i = Y 0 → X 0 ≤ X i := fun i hi e => by
    by_cases g : i = 0
    · rw [g]; exact Int.le_refl _
    · by_cases g2 : i = m
      · rw [g2, hXm]; exact Int.le_refl _
      · have := hl i (by omega) (by omega); omega
  have hD0 : D 0 = 0 := by rw [hDi, e0]; exact ho
  have hDm : D (m - 1) = 3 := by rw [hDi]; exact hst.1
  have s0 : X 0 < X 1 ∧ Y 1 = Y 0 := by
    have := hs 0 (by omega)
    unfold Sd at this
    have e : (0 : Nat) + 1 = 1 := rfl
    rw [e] at this
    omega
  -- boundaries of the contour
  have bd : ∀ i, i < m → ∀ k : Nat, k < ln (ixc (st c) m i) → Ed P (X i + k * stepXV (D i)) (Y i + k * stepYV (D i)) (D i) := fun i hi k hk => by
    rw [hXi, hYi, hDi]
    exact h.ed (h.lt hc hm (i := i) (by omega)).2.2 hk
  have nx : ∀ i, i < m → X (i + 1) = X i + ln (ixc (st c) m i) * stepXV (D i) ∧ Y (i + 1) = Y i + ln (ixc (st c) m i) * stepYV (D i) := fun i hi => by
    rw [hXi, hYi, hXi, hYi, hDi]
    exact h.nxt hc hm hi
  have sp : ∀ i, i < m → (D i = 0 ∧ stepXV (D i) = 1 ∧ stepYV (D i) = 0) ∨ (D i = 1 ∧ stepXV (D i) = 0 ∧ stepYV (D i) = 1) ∨ (D i = 2 ∧ stepXV (D i) = -1 ∧ stepYV (D i) = 0) ∨ (D i = 3 ∧ stepXV (D i) = 0 ∧ stepYV (D i) = -1) := fun i hi => by
    refine step_cases ?_
    rw [hDi]
    exact (bn_lv h.2.1 (h.2.2.1.bend (h.lt hc hm (i := i) (by omega)).2.2)).dir
  have n1 : ∀ cx cy : Int, P (cx - 1) cy = true → P cx cy = true → parI X Y m (cx - 1) cy = parI X Y m cx cy := fun cx cy p1 p2 => par_h fun i hi ⟨g1, g2, g3⟩ => by
    have hb := bd i hi
    obtain ⟨x1, y1⟩ := nx i hi
    rcases sp i hi with ⟨d, a, b⟩ | ⟨d, a, b⟩ | ⟨d, a, b⟩ | ⟨d, a, b⟩ <;> rw [a, b] at hb <;> rw [a] at x1 <;> rw [b] at y1
    · omega
    · have := (hb (cy - Y i).toNat (by omega)).r1 d
      rw [show X i + (((cy - Y i).toNat : Nat) : Int) * 0 = cx by omega, show Y i + (((cy - Y i).toNat : Nat) : Int) * 1 = cy by omega, p2] at this
      exact absurd this.2 (by decide)
    · omega
    · have := (hb (Y i - cy - 1).toNat (by omega)).r3 d
      rw [show X i + (((Y i - cy - 1).toNat : Nat) : Int) * 0 = cx by omega, show Y i + (((Y i - cy - 1).toNat : Nat) : Int) * (-1) - 1 = cy by omega, p1] at this
      exact absurd this.2 (by decide)
  have n2 : ∀ cx cy : Int, P cx (cy - 1) = true → P cx cy = true → sumN (hsI X Y cx cy) m = 0 := fun cx cy p1 p2 => sumN_z fun i hi => by
    unfold hsI
    refine if_neg fun ⟨g1, g2, g3⟩ => ?_
    have hb := bd i hi
    obtain ⟨x1, y1⟩ := nx i hi
    rcases sp i hi with ⟨d, a, b⟩ | ⟨d, a, b⟩ | ⟨d, a, b⟩ | ⟨d, a, b⟩ <;> rw [a, b] at hb <;> rw [a] at x1 <;> rw [b] at y1
    · have := (hb (cx - X i).toNat (by omega)).r0 d
      rw [show X i + (((cx - X i).toNat : Nat) : Int) * 1 = cx by omega, show Y i + (((cx - X i).toNat : Nat) : Int) * 0 = cy by omega, p1] at this
      exact absurd this.2 (by decide)
    · omega
    · have := (hb (X i - cx - 1).toNat (by omega)).r2 d
      rw [show X i + (((X i - cx - 1).toNat : Nat) : Int) * (-1) - 1 = cx by omega, show Y i + (((X i - cx - 1).toNat : Nat) : Int) * 0 = cy by omega, p2] at this
      exact absurd this.2 (by decide)
    · omega
  have low : ∀ cx cy : Int, cy < Y 0 → parI X Y m cx cy = 0 := fun cx cy g => sumN_z fun i hi => by
    have a := hlY i (by omega)
    have b := hlY (i + 1) (by omega)
    unfold vsI
    exact if_neg fun ⟨_, _, g3⟩ => by omega
  have left : ∀ cx : Int, cx < X 0 → parI X Y m cx (Y 0) % 2 = 0 := fun cx g => by
    have pv := par_v hs hXm hYm cx (Y 0)
    have hz : sumN (hsI X Y cx (Y 0)) m = 0 := sumN_z fun i hi => by
      have a := hlX i (by omega)
      have b := hlX (i + 1) (by omega)
      unfold hsI
      exact if_neg fun ⟨g1, g2, g3⟩ => by
        have a := a g2
        have b := b (by omega)
        omega
    rw [low cx (Y 0 - 1) (by omega), hz] at pv
    omega
  have first : parI X Y m (X 0) (Y 0) % 2 = 1 := by
    have pv := par_v hs hXm hYm (X 0) (Y 0)
    obtain ⟨m', rfl⟩ : ∃ m', m = m' + 1 := ⟨m - 1, by omega⟩
    have hh := sumN_head (hsI X Y (X 0) (Y 0)) m'
    have h0 : hsI X Y (X 0) (Y 0) 0 = 1 := by
      unfold hsI
      exact if_pos ⟨s0.2, rfl, Or.inl ⟨Int.le_refl _, s0.1⟩⟩
    have hz : sumN (fun q => hsI X Y (X 0) (Y 0) (1 + q)) m' = 0 := sumN_z fun q hq => by
      have a := hl (1 + q) (by omega) (by omega)
      have b := hlX (1 + q + 1) (by omega)
      unfold hsI
      refine if_neg fun ⟨g1, g2, g3⟩ => ?_
      have b := b (by omega)
      by_cases gq : q + 1 = m'
      · have e : m' + 1 - 1 = 1 + q := by omega
        rw [e] at hDm
        have := hs (1 + q) (by omega)
        unfold Sd at this
        omega
      · have := hl (1 + q + 1) (by omega) (by omega)
        omega
    rw [hh, h0, hz, low (X 0) (Y 0 - 1) (by omega)] at pv
    omega
  -- the component's cells are inside
  have inn : ∀ q, Cn (cp P) ad (cid (xs (st c)) (ys (st c))) q → cp P q ∧ parI X Y m ((q % 48 : Nat) : Int) ((q / 48 : Nat) : Int) % 2 = 1 := fun q hq => by
    refine hq (fun q => cp P q ∧ parI X Y m ((q % 48 : Nat) : Int) ((q / 48 : Nat) : Int) % 2 = 1) ⟨(cp_cid (by omega) (by omega) (by omega)).mpr hst.2, ?_⟩ ?_
    · rw [cid_m (by omega) (by omega) (by omega), cid_d (by omega) (by omega) (by omega), ← hX0, ← hY0]
      exact first
    · intro a b ⟨ca, pa⟩ hab cb
      refine ⟨cb, ?_⟩
      unfold cp at ca cb
      obtain ⟨-, -, ⟨g1, g2 | g2⟩ | ⟨g1, g2 | g2⟩⟩ := hab
      · have := n1 ((b % 48 : Nat) : Int) ((b / 48 : Nat) : Int) (by rw [show ((b % 48 : Nat) : Int) - 1 = ((a % 48 : Nat) : Int) by omega, ← g1]; exact ca) cb
        rw [show ((b % 48 : Nat) : Int) - 1 = ((a % 48 : Nat) : Int) by omega, ← g1] at this
        rw [← g1, ← this]
        exact pa
      · have := n1 ((a % 48 : Nat) : Int) ((a / 48 : Nat) : Int) (by rw [show ((a % 48 : Nat) : Int) - 1 = ((b % 48 : Nat) : Int) by omega, g1]; exact cb) ca
        rw [show ((a % 48 : Nat) : Int) - 1 = ((b % 48 : Nat) : Int) by omega] at this
        rw [← g1, this]
        exact pa
      · have pv := par_v hs hXm hYm ((b % 48 : Nat) : Int) ((b / 48 : Nat) : Int)
        have hz := n2 ((b % 48 : Nat) : Int) ((b / 48 : Nat) : Int) (by rw [show ((b / 48 : Nat) : Int) - 1 = ((a / 48 : Nat) : Int) by omega, ← g1]; exact ca) cb
        rw [hz, show ((b / 48 : Nat) : Int) - 1 = ((a / 48 : Nat) : Int) by omega] at pv
        rw [← g1] at pv ⊢
        omega
      · have pv := par_v hs hXm hYm ((a % 48 : Nat) : Int) ((a / 48 : Nat) : Int)
        have hz := n2 ((a % 48 : Nat) : Int) ((a / 48 : Nat) : Int) (by rw [show ((a / 48 : Nat) : Int) - 1 = ((b / 48 : Nat) : Int) by omega, g1]; exact cb) ca
        rw [hz, show ((a / 48 : Nat) : Int) - 1 = ((b / 48 : Nat) : Int) by omega] at pv
        rw [← g1]
        omega
  have hcp : cp P (cid (xs (st c)) (ys (st c))) := (cp_cid (by omega) (by omega) (by omega)).mpr hst.2
  refine ⟨hcp, fun x hx px hn => ?_⟩
  have hi := inn x (hn.sy ad_sy px)
  have hq : x / 48 < ys (st c) ∨ ((x / 48 : Nat) : Int) = ys (st c) ∧ ((x % 48 : Nat) : Int) < xs (st c) := by
    unfold cid at hx
    omega
  rcases hq with g | ⟨g1, g2⟩
  · have := low ((x % 48 : Nat) : Int) ((x / 48 : Nat) : Int) (by rw [hY0]; exact g)
    rw [this] at hi
    exact absurd hi.2 (by decide)
  · have := left ((x % 48 : Nat) : Int) (by rw [hX0]; exact g2)
    rw [hY0, ← g1] at this
    rw [this] at hi
    exact absurd hi.2 (by decide)
/-- .. and each component has one -/
theorem Ctl.has (h : Ctl P n st xs ys ln) (hf : ∀ x y, bn P x y = true → ∃ j, j < st n ∧ xs j = x ∧ ys j = y) (h4 : ∀ c, c < n → st c + 4 ≤ st (c + 1)) {q : Nat} (hq : Fi (cp P) ad q) : ∃ c, c < n ∧ lvd P (xs (st c)) (ys (st c)) = 0 ∧ cid (xs (st c)) (ys (st c)) = q := by
  have hp : P ((q % 48 : Nat) : Int) ((q / 48 : Nat) : Int) = true := hq.1
  generalize hx : ((q % 48 : Nat) : Int) = x at *
  generalize hy : ((q / 48 : Nat) : Int) = y at *
  have rg := h.1 _ _ hp
  have hqc : cid x y = q := by unfold cid; omega
  have w : P (x - 1) y = false := by
    cases e : P (x - 1) y with
    | false => rfl
    | true =>
      exfalso
      have r2 := h.1 _ _ e
      refine hq.2 (cid (x - 1) y) (by unfold cid; omega) ((cp_cid (by omega) (by omega) (by omega)).mpr e) ?_
      rw [← hqc]
      exact row_cn h.1 fun i hi => by
        have : i = x - 1 ∨ i = x := by omega
        rcases this with rfl | rfl
        · exact e
        · exact hp
  have s : P x (y - 1) = false := by
    cases e : P x (y - 1) with
    | false => rfl
    | true =>
      exfalso
      have r2 := h.1 _ _ e
      refine hq.2 (cid x (y - 1)) (by unfold cid; omega) ((cp_cid (by omega) (by omega) (by omega)).mpr e) ?_
      rw [← hqc]
      exact col_cn h.1 fun i hi => by
        have : i = y - 1 ∨ i = y := by omega
        rcases this with rfl | rfl
        · exact e
        · exact hp
  have sw : P (x - 1) (y - 1) = false := by
    cases e : P (x - 1) (y - 1) with
    | false => rfl
    | true => exact absurd ⟨e, hp, s, w⟩ (h.2.1 x y).1
  have hb : bn P x y = true := by unfold bn; rw [w, s, sw, hp]; rfl
  have hlv : lvd P x y = 0 := by unfold lvd; rw [w, s, sw, hp]; rfl
  obtain ⟨j, j1, j2, j3⟩ := hf x y hb
  obtain ⟨c, c1, c2, c3⟩ := h.2.2.1.find j1
  have hi2 := h.in_ c1
  have hm : st (c + 1) = st c + (st (c + 1) - st c) := by omega
  have hch := h.chain c1 hm (j - st c) (by omega)
  rw [show st c + (j - st c) = j by omega, j2, j3, hlv, show lcX 0 x = x by simp [lcX], show lcY 0 y = y by simp [lcY], hqc] at hch
  have hls : ys (st c) < y ∨ y = ys (st c) ∧ xs (st c) ≤ x := by
    by_cases g : j = st c
    · rw [g] at j2 j3; omega
    · have := h.least c1 hm (i := j - st c) (by omega) (by omega)
      rw [show st c + (j - st c) = j by omega, j2, j3] at this
      omega
  rcases h.start c1 hm (by have := h4 c c1; omega) with ⟨a, -, -, b⟩ | ⟨a, -, -, b⟩
  · refine ⟨c, c1, a, ?_⟩
    rw [a, show lcX 0 (xs (st c)) = xs (st c) by simp [lcX], show lcY 0 (ys (st c)) = ys (st c) by simp [lcY]] at hch
    have r2 := h.1 _ _ b
    have hle : ¬ cid (xs (st c)) (ys (st c)) < q := fun g => hq.2 _ g ((cp_cid (by omega) (by omega) (by omega)).mpr b) hch
    rw [← hqc] at hle ⊢
    unfold cid at hle ⊢
    omega
  · exfalso
    rw [a, show lcX 1 (xs (st c)) = xs (st c) - 1 by simp [lcX], show lcY 1 (ys (st c)) = ys (st c) by simp [lcY]] at hch
    have r2 := h.1 _ _ b
    refine hq.2 (cid (xs (st c) - 1) (ys (st c))) ?_ ((cp_cid (by omega) (by omega) (by omega)).mpr b) hch
    rw [← hqc]
    unfold cid
    omega
/-- AS MANY OUTER CONTOURS AS COMPONENTS -/
theorem Ctl.comps (h : Ctl P n st xs ys ln) (hf : ∀ x y, bn P x y = true → ∃ j, j < st n ∧ xs j = x ∧ ys j = y) (h4 : ∀ c, c < n → st c + 4 ≤ st (c + 1)) : sumN (fun c => 1 - hol P (xs (st c)) (ys (st c))) n = (cP (Fi (cp P) ad) 2304 : Int) := by
  have e1 : sumN (fun c => 1 - hol P (xs (st c)) (ys (st c))) n = sumN (fun c => iteP (lvd P (xs (st c)) (ys (st c)) = 0) ((fun _ => (1 : Int)) (cid (xs (st c)) (ys (st c)))) 0) n := sumN_congr fun c hc => by
    have hi2 := h.in_ hc
    have hh := h4 c hc
    rcases h.start hc (m := st (c + 1) - st c) (by omega) (by omega) with ⟨a, -⟩ | ⟨a, -⟩
    · rw [iteP_t a, hol_v.1 a]; rfl
    · rw [iteP_f (by omega), hol_v.2 a]; rfl
  rw [e1, sel_sum (k := fun c => cid (xs (st c)) (ys (st c))) (u := fun c => lvd P (xs (st c)) (ys (st c)) = 0) (G := fun _ => 1) (N := 2304) n ?_ ?_, cP_sum]
  · refine sumN_congr fun q hq => iteP_c ⟨fun ⟨c, c1, c2, c3⟩ => ?_, fun g => ?_⟩
    · have hi2 := h.in_ c1
      have hh := h4 c c1
      rw [← c3]
      exact h.fi c1 (m := st (c + 1) - st c) (by omega) (by omega) c2
    · exact h.has hf h4 g
  · intro c hc hu
    have hi2 := h.in_ hc
    have hh := h4 c hc
    have := (h.fi hc (m := st (c + 1) - st c) (by omega) (by omega) hu).1
    have hE := (bn_lv h.2.1 (h.2.2.1.bend (i := st c) (by omega))).r0 hu
    have rg := h.1 _ _ hE.1
    exact cid_lt (by omega) (by omega) (by omega) (by omega)
  · intro c c' hc hc' hu hu' e
    have hi2 := h.in_ hc
    have hi3 := h.in_ hc'
    have hE := (bn_lv h.2.1 (h.2.2.1.bend (i := st c) (by omega))).r0 hu
    have hE' := (bn_lv h.2.1 (h.2.2.1.bend (i := st c') (by omega))).r0 hu'
    have rg := h.1 _ _ hE.1
    have rg' := h.1 _ _ hE'.1
    have e2 := h.2.2.1.2.2 (st c) (st c') (by omega) (by omega) (by unfold cid at e; omega) (by unfold cid at e; omega)
    rcases Nat.lt_trichotomy c c' with g | g | g
    · have := h.2.2.1.mono (c := c + 1) (d := c') (by omega) (by omega); omega
    · exact g
    · have := h.2.2.1.mono (c := c' + 1) (d := c) (by omega) (by omega); omega
end OU

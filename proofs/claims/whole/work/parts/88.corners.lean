/-! corners -/
def corB (A : Int → Int → Bool) (X Y : Int) : Bool := !((A (X - 1) (Y - 1) == A X (Y - 1)) && (A (X - 1) Y == A X Y)) && !((A (X - 1) (Y - 1) == A (X - 1) Y) && (A X (Y - 1) == A X Y))
theorem c414 {i : Nat} {x y : Int} {M : Mm} {Q : Int → Mm → Prop} (hR : R12 (M.1 500 i)) (hx : 0 ≤ x ∧ x ≤ 12) (hy : 0 ≤ y ∧ y ≤ 12) (hQ : Q (b2i (corB (cel (M.1 500 i)) x y)) M) : E_414 i x y M Q := by
  refine s_414_0 ⟨⟨by omega, by omega⟩, fun x3 e3 => ⟨by omega, fun x4 e4 => ⟨by omega, fun x5 e5 x6 e6 b eb b1 eb1 b2 eb2 => ?_⟩⟩⟩
  rw [hasV_cel hR] at e3 e4 e5 e6
  have e : b2 = b2i (corB (cel (M.1 500 i)) x y) := by
    unfold corB
    rw [eb2, eb, eb1, e3, e4, e5, e6]
    generalize cel (M.1 500 i) (x - 1) (y - 1) = a
    generalize cel (M.1 500 i) x (y - 1) = b
    generalize cel (M.1 500 i) (x - 1) y = c
    generalize cel (M.1 500 i) x y = d
    revert a b c d
    decide
  rw [e]
  exact ⟨b2i_c _, hQ⟩
noncomputable def corN (A : Int → Int → Bool) : Nat := cntL (corB A) 13 13
theorem c413 {i : Nat} {M : Mm} {Q : Int → Mm → Prop} (hR : R12 (M.1 500 i)) (hQ : Q (corN (cel (M.1 500 i))) M) : E_413 i M Q := by
  refine s_413_0 ?_
  generalize hA : cel (M.1 500 i) = A at *
  have key : ∀ s y : Nat, y + s = 13 → L_413_4 i (cntL (corB A) 13 y : Int) (y : Int) M Q := by
    intro s
    induction s with
    | zero =>
      intro y hy
      have e : y = 13 := by omega
      refine s_413_4 ⟨fun _ => by rw [e]; exact hQ, fun h => by omega⟩
    | succ s ih =>
      intro y hy
      have hle := cntL_le (corB A) 13 y
      refine s_413_4 ⟨fun h => by omega, fun _ => ?_⟩
      have row : ∀ r x : Nat, x + r = 13 → L_413_12 i ((cntL (corB A) 13 y + cntB (fun x => corB A x y) x : Nat) : Int) (y : Int) (x : Int) M Q := by
        intro r
        induction r with
        | zero =>
          intro x hx
          have e : x = 13 := by omega
          refine s_413_12 ⟨fun _ => ⟨by omega, ?_⟩, fun h => by omega⟩
          have := ih (y + 1) (by omega)
          rw [e]
          rwa [show ((y + 1 : Nat) : Int) = (y : Int) + 1 by omega] at this
        | succ r ihr =>
          intro x hx
          have hle2 := cntB_le (fun x => corB A (x : Nat) y) x
          refine s_413_12 ⟨fun h => by omega, fun _ => c414 hR (by omega) (by omega) ?_⟩
          rw [hA]
          refine ⟨fun _ => by omega, fun z ez => ⟨by omega, ?_⟩⟩
          have e : z = ((cntL (corB A) 13 y + cntB (fun x => corB A x y) (x + 1) : Nat) : Int) := by
            rw [ez]
            cases hb : corB A x y with
            | true =>
              rw [cntB_y (b := fun x => corB A (x : Nat) y) hb, if_neg (by decide)]; omega
            | false => rw [cntB_n (b := fun x => corB A (x : Nat) y) hb, if_pos b2i_f]
          rw [e]
          have := ihr (x + 1) (by omega)
          rwa [show ((x + 1 : Nat) : Int) = (x : Int) + 1 by omega] at this
      exact row 13 0 (by omega)
  exact key 13 0 (by omega)
/-! corners are where phase 0 bends -/
theorem lay1_v {f : Nat → Int} {x y x0 x1 y0 y1 : Int} (h1 : (x - 1) / 4 = x0) (h2 : (x + 1) / 4 = x1) (h3 : (y - 1) / 4 = y0) (h4 : (y + 1) / 4 = y1) : lay f 1 x y = ((cel f x0 y0 && cel f x1 y0) && (cel f x0 y1 && cel f x1 y1)) := by
  refine Bool_eq ?_
  rw [Bool.and_eq_true, Bool.and_eq_true, Bool.and_eq_true]
  constructor
  · intro h
    have g := (pk_w (f := f) (k := 0) (x := x) (y := y)).mp h
    exact ⟨⟨g _ _ (by omega) (by omega) (by omega) (by omega), g _ _ (by omega) (by omega) (by omega) (by omega)⟩, g _ _ (by omega) (by omega) (by omega) (by omega), g _ _ (by omega) (by omega) (by omega) (by omega)⟩
  · rintro ⟨⟨a, b⟩, c, d⟩
    refine (pk_w (f := f) (k := 0) (x := x) (y := y)).mpr fun u v u1 u2 v1 v2 => ?_
    have eu : u = x0 ∨ u = x1 := by omega
    have ev : v = y0 ∨ v = y1 := by omega
    rcases eu with rfl | rfl <;> rcases ev with rfl | rfl <;> assumption
def co1 (a b c d : Bool) : Bool := (a ^^ (a && b)) ^^ ((a && c) ^^ ((a && b) && (c && d)))
theorem co_all : ∀ a b c d : Bool, (!((a == b) && (c == d)) && !((a == c) && (b == d))) = (((co1 a b c d) || (co1 b a d c)) || ((co1 c d a b) || (co1 d c b a))) := by decide
theorem bn_4 {f : Nat → Int} (X Y : Int) : bn (lay f 1) (4 * X - 1) (4 * Y - 1) = co1 (cel f (X - 1) (Y - 1)) (cel f X (Y - 1)) (cel f (X - 1) Y) (cel f X Y) ∧ bn (lay f 1) (4 * X + 1) (4 * Y - 1) = co1 (cel f X (Y - 1)) (cel f (X - 1) (Y - 1)) (cel f X Y) (cel f (X - 1) Y) ∧ bn (lay f 1) (4 * X - 1) (4 * Y + 1) = co1 (cel f (X - 1) Y) (cel f X Y) (cel f (X - 1) (Y - 1)) (cel f X (Y - 1)) ∧ bn (lay f 1) (4 * X + 1) (4 * Y + 1) = co1 (cel f X Y) (cel f (X - 1) Y) (cel f X (Y - 1)) (cel f (X - 1) (Y - 1)) := by
  have L : ∀ (x y x0 x1 y0 y1 : Int), (x - 1) / 4 = x0 → (x + 1) / 4 = x1 → (y - 1) / 4 = y0 → (y + 1) / 4 = y1 → lay f 1 x y = ((cel f x0 y0 && cel f x1 y0) && (cel f x0 y1 && cel f x1 y1)) := fun x y x0 x1 y0 y1 h1 h2 h3 h4 => lay1_v h1 h2 h3 h4
  have c0 : ∀ X : Int, (4 * X - 1 - 1 - 1) / 4 = X - 1 ∧ (4 * X - 1 - 1 + 1) / 4 = X - 1 ∧ (4 * X - 1 - 1) / 4 = X - 1 ∧ (4 * X - 1 + 1) / 4 = X ∧ (4 * X + 1 - 1 - 1) / 4 = X - 1 ∧ (4 * X + 1 - 1 + 1) / 4 = X ∧ (4 * X + 1 - 1) / 4 = X ∧ (4 * X + 1 + 1) / 4 = X := fun X => by omega
  obtain ⟨x1, x2, x3, x4, x5, x6, x7, x8⟩ := c0 X
  obtain ⟨y1, y2, y3, y4, y5, y6, y7, y8⟩ := c0 Y
  unfold bn
  refine ⟨?_, ?_, ?_, ?_⟩
  · rw [L (4 * X - 1 - 1) (4 * Y - 1 - 1) _ _ _ _ x1 x2 y1 y2, L (4 * X - 1) (4 * Y - 1 - 1) _ _ _ _ x3 x4 y1 y2, L (4 * X - 1 - 1) (4 * Y - 1) _ _ _ _ x1 x2 y3 y4, L (4 * X - 1) (4 * Y - 1) _ _ _ _ x3 x4 y3 y4]
    generalize cel f (X - 1) (Y - 1) = a
    generalize cel f X (Y - 1) = b
    generalize cel f (X - 1) Y = c
    generalize cel f X Y = d
    revert a b c d
    decide
  · rw [L (4 * X + 1 - 1) (4 * Y - 1 - 1) _ _ _ _ x5 x6 y1 y2, L (4 * X + 1) (4 * Y - 1 - 1) _ _ _ _ x7 x8 y1 y2, L (4 * X + 1 - 1) (4 * Y - 1) _ _ _ _ x5 x6 y3 y4, L (4 * X + 1) (4 * Y - 1) _ _ _ _ x7 x8 y3 y4]
    generalize cel f (X - 1) (Y - 1) = a
    generalize cel f X (Y - 1) = b
    generalize cel f (X - 1) Y = c
    generalize cel f X Y = d
    revert a b c d
    decide
  · rw [L (4 * X - 1 - 1) (4 * Y + 1 - 1) _ _ _ _ x1 x2 y5 y6, L (4 * X - 1) (4 * Y + 1 - 1) _ _ _ _ x3 x4 y5 y6, L (4 * X - 1 - 1) (4 * Y + 1) _ _ _ _ x1 x2 y7 y8, L (4 * X - 1) (4 * Y + 1) _ _ _ _ x3 x4 y7 y8]
    generalize cel f (X - 1) (Y - 1) = a
    generalize cel f X (Y - 1) = b
    generalize cel f (X - 1) Y = c
    generalize cel f X Y = d
    revert a b c d
    decide
  · rw [L (4 * X + 1 - 1) (4 * Y + 1 - 1) _ _ _ _ x5 x6 y5 y6, L (4 * X + 1) (4 * Y + 1 - 1) _ _ _ _ x7 x8 y5 y6, L (4 * X + 1 - 1) (4 * Y + 1) _ _ _ _ x5 x6 y7 y8, L (4 * X + 1) (4 * Y + 1) _ _ _ _ x7 x8 y7 y8]
    generalize cel f (X - 1) (Y - 1) = a
    generalize cel f X (Y - 1) = b
    generalize cel f (X - 1) Y = c
    generalize cel f X Y = d
    revert a b c d
    decide
theorem cor_bn {f : Nat → Int} {X Y : Int} : corB (cel f) X Y = true ↔ ∃ x y, bn (lay f 1) x y = true ∧ (x + 1) / 4 = X ∧ (y + 1) / 4 = Y := by
  obtain ⟨b1, b2, b3, b4⟩ := bn_4 (f := f) X Y
  have e : corB (cel f) X Y = ((bn (lay f 1) (4 * X - 1) (4 * Y - 1) || bn (lay f 1) (4 * X + 1) (4 * Y - 1)) || (bn (lay f 1) (4 * X - 1) (4 * Y + 1) || bn (lay f 1) (4 * X + 1) (4 * Y + 1))) := by
    rw [b1, b2, b3, b4]
    exact co_all _ _ _ _
  rw [e, Bool.or_eq_true, Bool.or_eq_true, Bool.or_eq_true]
  constructor
  · rintro ((h | h) | (h | h))
    · exact ⟨_, _, h, by omega, by omega⟩
    · exact ⟨_, _, h, by omega, by omega⟩
    · exact ⟨_, _, h, by omega, by omega⟩
    · exact ⟨_, _, h, by omega, by omega⟩
  · rintro ⟨x, y, h, hx, hy⟩
    obtain ⟨o1, o2⟩ := bn_odd (f := f) (k := 0) h
    have ex : x = 4 * X - 1 ∨ x = 4 * X + 1 := by omega
    have ey : y = 4 * Y - 1 ∨ y = 4 * Y + 1 := by omega
    rcases ex with rfl | rfl <;> rcases ey with rfl | rfl
    · exact Or.inl (Or.inl h)
    · exact Or.inr (Or.inl h)
    · exact Or.inl (Or.inr h)
    · exact Or.inr (Or.inr h)
/-! the ends of edges -/
def uq (x y : Int) : Int := 49 * ((y + 1) / 4) + (x + 1) / 4
noncomputable def ptE (P : Int → Int → Bool) (k : Nat) : Int := if xD P (k / 2) % 2 ≠ 0 then 49 * (if k % 2 ≠ 0 then xB P (k / 2) else xA P (k / 2)) + xL P (k / 2) else 49 * xL P (k / 2) + (if k % 2 ≠ 0 then xB P (k / 2) else xA P (k / 2))
theorem ends {P : Int → Int → Bool} (hv : Vok P) {e : Nat} (he : e < vE P) (hd : Dir (xD P e)) : ∃ w, w < vE P ∧ ((ptE P (2 * e) = uq (vX P e) (vY P e) ∧ ptE P (2 * e + 1) = uq (vX P w) (vY P w)) ∨ (ptE P (2 * e + 1) = uq (vX P e) (vY P e) ∧ ptE P (2 * e) = uq (vX P w) (vY P w))) := by
  obtain ⟨⟨hct, hall⟩, hln⟩ := hv
  obtain ⟨c, c1, c2, c3⟩ := hct.find he
  obtain ⟨n1, n2⟩ := LN.nx hct hln c1 c2 c3
  have hw : nxi (vS P c) (vS P (c + 1)) e < vE P := by
    have := hct.mono (show c + 1 ≤ vN P by omega) (Nat.le_refl _)
    unfold nxi
    have hE : vE P = vS P (vN P) := rfl
    split <;> omega
  refine ⟨_, hw, ?_⟩
  rw [n1, n2]
  have k1 : 2 * e / 2 = e := by omega
  have k2 : (2 * e + 1) / 2 = e := by omega
  have k3 : (2 * e) % 2 = 0 := by omega
  have k4 : (2 * e + 1) % 2 = 1 := by omega
  unfold ptE
  rw [k1, k2, k3, k4, if_neg (show ¬ ((0 : Nat) ≠ 0) by omega), if_pos (show (1 : Nat) ≠ 0 by omega)]
  have eD' : xD P e = lvd P (vX P e) (vY P e) := rfl
  have eA : xA P e = (loS (lvd P (vX P e) (vY P e)) (vX P e) (vY P e) (vL P e) + 1) / 4 := rfl
  have eB : xB P e = (hiS (lvd P (vX P e) (vY P e)) (vX P e) (vY P e) (vL P e) + 1) / 4 := rfl
  have eL' : xL P e = (linS (lvd P (vX P e) (vY P e)) (vX P e) (vY P e) + 1) / 4 := rfl
  rw [eA, eB, eL', eD']
  rw [eD'] at hd
  generalize lvd P (vX P e) (vY P e) = d at *
  unfold uq
  rcases hd with rfl | rfl | rfl | rfl
  · have s1 : stepXV 0 = 1 := rfl
    have s2 : stepYV 0 = 0 := rfl
    have s3 : linS 0 (vX P e) (vY P e) = vY P e := rfl
    have s4 : loS 0 (vX P e) (vY P e) (vL P e) = vX P e := rfl
    have s5 : hiS 0 (vX P e) (vY P e) (vL P e) = vX P e + vL P e := rfl
    rw [s1, s2, s3, s4, s5, if_neg (by decide), if_neg (by decide), Int.mul_one, Int.mul_zero, Int.add_zero]
    exact Or.inl ⟨rfl, rfl⟩
  · have s1 : stepXV 1 = 0 := rfl
    have s2 : stepYV 1 = 1 := rfl
    have s3 : linS 1 (vX P e) (vY P e) = vX P e := rfl
    have s4 : loS 1 (vX P e) (vY P e) (vL P e) = vY P e := rfl
    have s5 : hiS 1 (vX P e) (vY P e) (vL P e) = vY P e + vL P e := rfl
    rw [s1, s2, s3, s4, s5, if_pos (by decide), if_pos (by decide), Int.mul_one, Int.mul_zero, Int.add_zero]
    exact Or.inl ⟨rfl, rfl⟩
  · have s1 : stepXV 2 = -1 := rfl
    have s2 : stepYV 2 = 0 := rfl
    have s3 : linS 2 (vX P e) (vY P e) = vY P e := rfl
    have s4 : loS 2 (vX P e) (vY P e) (vL P e) = vX P e - vL P e := rfl
    have s5 : hiS 2 (vX P e) (vY P e) (vL P e) = vX P e := rfl
    rw [s1, s2, s3, s4, s5, if_neg (by decide), if_neg (by decide), Int.mul_zero, Int.add_zero, show (vL P e : Int) * -1 = -(vL P e : Int) by omega]
    exact Or.inr ⟨rfl, rfl⟩
  · have s1 : stepXV 3 = 0 := rfl
    have s2 : stepYV 3 = -1 := rfl
    have s3 : linS 3 (vX P e) (vY P e) = vX P e := rfl
    have s4 : loS 3 (vX P e) (vY P e) (vL P e) = vY P e - vL P e := rfl
    have s5 : hiS 3 (vX P e) (vY P e) (vL P e) = vY P e := rfl
    rw [s1, s2, s3, s4, s5, if_pos (by decide), if_pos (by decide), Int.mul_zero, Int.add_zero, show (vL P e : Int) * -1 = -(vL P e : Int) by omega]
    exact Or.inr ⟨rfl, rfl⟩
/-- the ends of all edges are the corners -/
theorem ends_cor {f : Nat → Int} (hv : Vok (lay f 1)) {p : Nat} (hp : p < 2401) : (∃ k, k < 2 * vE (lay f 1) ∧ ptE (lay f 1) k = p) ↔ corB (cel f) ((p % 49 : Nat) : Int) ((p / 49 : Nat) : Int) = true := by
  have hE := EG.of hv
  have sp : ∀ x y : Int, bn (lay f 1) x y = true → (uq x y = p ↔ (x + 1) / 4 = ((p % 49 : Nat) : Int) ∧ (y + 1) / 4 = ((p / 49 : Nat) : Int)) := fun x y h => by
    have r := bn_rng (f := f) (k := 0) h
    unfold uq
    omega
  have hb : ∀ e, e < vE (lay f 1) → bn (lay f 1) (vX (lay f 1) e) (vY (lay f 1) e) = true := fun e he => hv.1.1.bend he
  rw [cor_bn]
  constructor
  · rintro ⟨k, hk, hpt⟩
    have hke : k / 2 < vE (lay f 1) := by omega
    obtain ⟨w, hw, h⟩ := ends hv hke (hE.2 _ hke).1
    have e2 : k = 2 * (k / 2) ∨ k = 2 * (k / 2) + 1 := by omega
    have fin : ∀ e, e < vE (lay f 1) → uq (vX (lay f 1) e) (vY (lay f 1) e) = p → ∃ x y, bn (lay f 1) x y = true ∧ (x + 1) / 4 = ((p % 49 : Nat) : Int) ∧ (y + 1) / 4 = ((p / 49 : Nat) : Int) := fun e he hu => ⟨_, _, hb e he, (sp _ _ (hb e he)).mp hu⟩
    rcases e2 with e2 | e2
    · rw [← e2] at h
      rcases h with ⟨h1, -⟩ | ⟨-, h2⟩
      · exact fin _ hke (h1 ▸ hpt)
      · exact fin _ hw (h2 ▸ hpt)
    · rw [← e2] at h
      rcases h with ⟨-, h2⟩ | ⟨h1, -⟩
      · exact fin _ hw (h2 ▸ hpt)
      · exact fin _ hke (h1 ▸ hpt)
  · rintro ⟨x, y, h, hxy⟩
    obtain ⟨e, he, ex, ey⟩ := hv.1.2 x y h
    have hu := (sp x y h).mpr hxy
    obtain ⟨w, -, g⟩ := ends hv (e := e) he (hE.2 _ he).1
    rcases g with ⟨g1, -⟩ | ⟨g1, -⟩
    · exact ⟨2 * e, by have : e < vE (lay f 1) := he; omega, by rw [g1, ex, ey]; exact hu⟩
    · exact ⟨2 * e + 1, by have : e < vE (lay f 1) := he; omega, by rw [g1, ex, ey]; exact hu⟩
/-! counting points in rows -/
theorem cnt_flat (b : Nat → Bool) (Q : Int → Int → Bool) (h : ∀ x y : Nat, x < 49 → b (49 * y + x) = Q x y) : ∀ m, cntB b (49 * m) = cntL Q 49 m
  | 0 => rfl
  | m + 1 => by
    show cntB b (49 * m + 49) = cntL Q 49 m + cntB (fun x => Q x m) 49
    rw [cntB_add, cnt_flat b Q h m]
    congr 1
    exact cntB_congr fun x hx => h x m hx
theorem cntL_x {Q : Int → Int → Bool} (h : ∀ x y : Nat, 13 ≤ x → Q x y = false) : ∀ m, cntL Q 49 m = cntL Q 13 m
  | 0 => rfl
  | m + 1 => by
    show cntL Q 49 m + cntB (fun x => Q x m) 49 = cntL Q 13 m + cntB (fun x => Q x m) 13
    rw [cntL_x h m, cntB_ext (n := 13) (m := 49) (fun x hx => h x m hx) (by omega)]
theorem cntL_y {Q : Int → Int → Bool} {n : Nat} (h : ∀ x y : Nat, 13 ≤ y → Q x y = false) : ∀ m, cntL Q n (13 + m) = cntL Q n 13
  | 0 => rfl
  | m + 1 => by
    show cntL Q n (13 + m) + cntB (fun x => Q x ((13 + m : Nat) : Int)) n = cntL Q n 13
    rw [cntL_y h m, cntB_zero fun x _ => h x (13 + m) (by omega)]; rfl
theorem cor_49 (f : Nat → Int) : cntB (fun p => corB (cel f) ((p % 49 : Nat) : Int) ((p / 49 : Nat) : Int)) 2401 = corN (cel f) := by
  have o : ∀ x y : Int, 12 ≤ x ∨ 12 ≤ y → cel f x y = false := fun x y h => cel_out (by omega)
  have h1 := cnt_flat (fun p => corB (cel f) ((p % 49 : Nat) : Int) ((p / 49 : Nat) : Int)) (corB (cel f)) (fun x y hx => by
    show corB (cel f) (((49 * y + x) % 49 : Nat) : Int) (((49 * y + x) / 49 : Nat) : Int) = _
    rw [show (49 * y + x) % 49 = x by omega, show (49 * y + x) / 49 = y by omega]) 49
  have e1 : cntB (fun p => corB (cel f) ((p % 49 : Nat) : Int) ((p / 49 : Nat) : Int)) 2401 = cntL (corB (cel f)) 49 49 := h1
  rw [e1, cntL_x fun x y hx => ?_, show (49 : Nat) = 13 + 36 by rfl, cntL_y fun x y hy => ?_]
  · rfl
  · unfold corB
    rw [o x ((y : Int) - 1) (by omega), o x y (by omega), o ((x : Int) - 1) ((y : Int) - 1) (by omega), o ((x : Int) - 1) y (by omega)]; rfl
  · unfold corB
    rw [o x ((y : Int) - 1) (by omega), o x y (by omega), o ((x : Int) - 1) ((y : Int) - 1) (by omega), o ((x : Int) - 1) y (by omega)]; rfl
def T1053 (t j : Nat) : Prop := t = 1129 ∧ j = 0
theorem c1053_11 {f : Nat → Int} {M : Mm} {Q : Int → Mm → Prop} (hv : Vok (lay f 1)) (hE : Edm M (lay f 1)) (hQ : ∀ M', Fx T1053 M M' → Q (corN (cel f)) M') : L_1053_11 0 M Q := by
  have hG := EG.of hv
  have h312 := hG.1
  obtain ⟨h34, hed⟩ := hE
  have count : ∀ (s k : Nat) (M' : Mm), k + s = 2 * vE (lay f 1) → Fx T1053 M M' → (∀ p, p < 2401 → (M'.1 1129 0 p = 1 ∧ ∃ k', k' < k ∧ ptE (lay f 1) k' = p) ∨ (M'.1 1129 0 p = 0 ∧ ¬ ∃ k', k' < k ∧ ptE (lay f 1) k' = p)) → L_1053_35 (cl (fun p => M'.1 1129 0 p - 1) 2401 : Int) (k : Int) M' Q := by
    intro s
    induction s with
    | zero =>
      intro k M' hk hf hm
      have e34 : M'.1 10 0 34 = vE (lay f 1) := by rw [(hf 10 0 (by unfold T1053; omega)).1]; exact h34
      refine s_1053_35 ?_
      rw [e34]
      refine ⟨by omega, fun _ => ?_, fun h => by omega⟩
      have ec : cl (fun p => M'.1 1129 0 p - 1) 2401 = corN (cel f) := by
        rw [← cor_49]
        refine cntB_congr fun p hp => ?_
        have he : k = 2 * vE (lay f 1) := by omega
        rcases hm p hp with ⟨h1, h2⟩ | ⟨h1, h2⟩
        · rw [he] at h2
          rw [(ends_cor hv hp).mp h2]
          exact decide_eq_true (show 0 ≤ M'.1 1129 0 p - 1 by omega)
        · rw [he] at h2
          cases hc : corB (cel f) ((p % 49 : Nat) : Int) ((p / 49 : Nat) : Int) with
          | true => exact absurd ((ends_cor hv hp).mpr hc) h2
          | false => exact decide_eq_false (show ¬ 0 ≤ M'.1 1129 0 p - 1 by omega)
      rw [ec]
      exact hQ M' hf
    | succ s ih =>
      intro k M' hk hf hm
      have e34 : M'.1 10 0 34 = vE (lay f 1) := by rw [(hf 10 0 (by unfold T1053; omega)).1]; exact h34
      have hke : k / 2 < vE (lay f 1) := by omega
      obtain ⟨d1, d2, d3, d4⟩ := hed (k / 2) hke
      have z : ∀ t, t ≠ 1129 → M'.1 t 0 = M.1 t 0 := fun t ht => (hf t 0 (by unfold T1053; omega)).1
      obtain ⟨g1, g2, g3, g4⟩ := hG.2 (k / 2) hke
      have g1' : Dir (xD (lay f 1) (k / 2)) := g1
      have g2' : 0 ≤ xL (lay f 1) (k / 2) ∧ xL (lay f 1) (k / 2) ≤ 12 := g2
      have g3' : 0 ≤ xA (lay f 1) (k / 2) ∧ xA (lay f 1) (k / 2) ≤ 12 := g3
      have g4' : 0 ≤ xB (lay f 1) (k / 2) ∧ xB (lay f 1) (k / 2) ≤ 12 := g4
      have gd : 0 ≤ xD (lay f 1) (k / 2) ∧ xD (lay f 1) (k / 2) ≤ 3 := by rcases g1' with g | g | g | g <;> omega
      clear g1 g2 g3 g4 g1'
      have hcle := cl_le (fun p => M'.1 1129 0 p - 1) 2401
      refine s_1053_35 ?_
      rw [e34]
      refine ⟨by omega, fun h => by omega, fun _ => ⟨by omega, fun d ed => ⟨by omega, fun dm edm => ?_⟩⟩⟩
      rw [tdiv_p (by omega)] at ed
      rw [tmod_p (by omega)] at edm
      have e1 : d = ((k / 2 : Nat) : Int) := by omega
      have e2 : dm = ((k % 2 : Nat) : Int) := by omega
      clear ed edm
      subst e1
      subst e2
      rw [Int.toNat_natCast, z 1138 (by omega), z 1137 (by omega), z 1136 (by omega), z 1135 (by omega), d1, d2, d3, d4]
      refine ⟨fun _ => by omega, fun _ => by omega, fun al eal => ⟨⟨by omega, by omega⟩, fun dd edd => ?_⟩⟩
      rw [tmod_p (by omega)] at edd
      have eal' : al = if k % 2 ≠ 0 then xB (lay f 1) (k / 2) else xA (lay f 1) (k / 2) := by
        rw [eal]
        by_cases q : k % 2 = 0
        · rw [if_neg (by omega), if_neg (by omega)]
        · rw [if_pos (by omega), if_pos (by omega)]
      have ral : 0 ≤ al ∧ al ≤ 12 := by rw [eal']; split <;> omega
      refine ⟨fun _ => ⟨by omega, by omega, by omega⟩, fun _ => ⟨by omega, by omega, by omega⟩, fun pt ept => ?_⟩
      have ept' : pt = ptE (lay f 1) k := by
        rw [ept, edd]
        unfold ptE
        rw [← eal']
      have rpt : 0 ≤ pt ∧ pt < 2401 := by rw [ept]; split <;> omega
      obtain ⟨p, hp⟩ : ∃ p : Nat, pt = p := ⟨pt.toNat, by omega⟩
      rw [hp] at ept' rpt ⊢
      clear ept hp
      rw [Int.toNat_natCast]
      refine ⟨by omega, fun b eb => ⟨by rw [eb]; split <;> omega, fun x ex => ⟨by omega, fun M1 e1 => ⟨by omega, ?_⟩⟩⟩⟩
      have q1 : M1.1 1129 0 = ups (M'.1 1129 0) p 1 := by rw [e1, setI_at]
      have exc : x = (cl (fun p => M1.1 1129 0 p - 1) 2401 : Int) := by
        rw [ex, eb, q1]
        rcases hm p (by omega) with ⟨h1, -⟩ | ⟨h1, -⟩
        · rw [if_neg (by omega), Int.add_zero]
          have : (fun p_1 => ups (M'.1 1129 0) p 1 p_1 - 1) = fun p => M'.1 1129 0 p - 1 := by
            funext y
            by_cases q : y = p
            · rw [q, ups_at, h1]
            · rw [ups_ne q]
          rw [this]
        · rw [if_pos h1]
          have := cl_up (l := fun p => M'.1 1129 0 p - 1) (l' := fun p_1 => ups (M'.1 1129 0) p 1 p_1 - 1) (k := p) (n := 2401) (by omega) (by show M'.1 1129 0 p - 1 < 0; omega) (by show 0 ≤ ups (M'.1 1129 0) p 1 p - 1; rw [ups_at]; omega) fun y _ hy => by
            show ups (M'.1 1129 0) p 1 y - 1 = M'.1 1129 0 y - 1
            rw [ups_ne hy]
          rw [this]; rfl
      rw [exc]
      have := ih (k + 1) M1 (by omega) (hf.tr (by rw [e1]; exact Fx.setI ⟨rfl, rfl⟩)) fun y hy => by
        rw [q1]
        by_cases q : y = p
        · rw [q, ups_at]
          exact Or.inl ⟨rfl, k, Nat.lt_succ_self k, ept'.symm⟩
        · rw [ups_ne q]
          rcases hm y hy with ⟨h1, k', h2, h3⟩ | ⟨h1, h2⟩
          · exact Or.inl ⟨h1, k', by omega, h3⟩
          · refine Or.inr ⟨h1, fun ⟨k', h3, h4⟩ => ?_⟩
            by_cases qk : k' = k
            · rw [qk] at h4; omega
            · exact h2 ⟨k', by omega, h4⟩
      rwa [show ((k + 1 : Nat) : Int) = (k : Int) + 1 by omega] at this
  have fill : ∀ (s n : Nat) (M' : Mm), n + s = 2401 → Fx T1053 M M' → (∀ p, p < n → M'.1 1129 0 p = 0) → L_1053_11 (n : Int) M' Q := by
    intro s
    induction s with
    | zero =>
      intro n M' hn hf g
      refine s_1053_11 ⟨fun _ => ?_, fun h => by omega⟩
      have := count (2 * vE (lay f 1)) 0 M' (by omega) hf fun p hp => Or.inr ⟨g p (by omega), fun ⟨k', h, _⟩ => absurd h (Nat.not_lt_zero k')⟩
      have e0 : cl (fun p => M'.1 1129 0 p - 1) 2401 = 0 := cntB_zero fun p hp => decide_eq_false (show ¬ 0 ≤ M'.1 1129 0 p - 1 by rw [g p (by omega)]; decide)
      rw [e0] at this
      exact this
    | succ s ih =>
      intro n M' hn hf g
      refine s_1053_11 ⟨fun h => by omega, fun _ => ⟨by omega, fun M1 e1 => ⟨by omega, ?_⟩⟩⟩
      rw [Int.toNat_natCast] at e1
      have := ih (n + 1) M1 (by omega) (hf.tr (by rw [e1]; exact Fx.setI ⟨rfl, rfl⟩)) fun p hp => by
        rw [e1, setI_at]
        by_cases q : p = n
        · rw [q, ups_at]
        · rw [ups_ne q]; exact g p (by omega)
      rwa [show ((n + 1 : Nat) : Int) = (n : Int) + 1 by omega] at this
  exact fill 2401 0 M (by omega) Fx.rf fun p h => absurd h (Nat.not_lt_zero p)

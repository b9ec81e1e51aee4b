/-! corners -/
def corB (A : Int → Int → Bool) (X Y : Int) : Bool := !((A (X - 1) (Y - 1) == A X (Y - 1)) && (A (X - 1) Y == A X Y)) && !((A (X - 1) (Y - 1) == A (X - 1) Y) && (A X (Y - 1) == A X Y))
theorem c414 {i : Nat} {x y : Int} {M : Mm} {Q : Int → Mm → Prop} (hR : R12 (M.1 500 i)) (hx : 0 ≤ x ∧ x ≤ 12) (hy : 0 ≤ y ∧ y ≤ 12) (hQ : Q (b2i (corB (cel (M.1 500 i)) x y)) M) : E_414 i x y M Q := by
  refine s_414_0 ⟨⟨by omega, by omega⟩, fun x3 e3 => ⟨by omega, fun x4 e4 => ⟨by omega, fun x5 e5 x6 e6 b eb b1 eb1 b2 eb2 => ?_⟩⟩⟩
  rw [hasV_cel hR] at e3 e4 e5 e6
  have e : b2 = b2i (corB (cel (M.1 500 i)) x y) := by
    unfold corB
    rw [eb2, eb, eb1, e3, e4, e5, e6]
    generalize cel (M.1 500 i) (x - 1) (y - 1) = a
    generalize cel (M.1 500 i) x (y - 1) = b
    generalize cel (M.1 500 i) (x - 1) y = c
    generalize cel (M.1 500 i) x y = d
    revert a b c d
    decide
  rw [e]
  exact ⟨b2i_c _, hQ⟩
noncomputable def corN (A : Int → Int → Bool) : Nat := cntL (corB A) 13 13
theorem c413 {i : Nat} {M : Mm} {Q : Int → Mm → Prop} (hR : R12 (M.1 500 i)) (hQ : Q (corN (cel (M.1 500 i))) M) : E_413 i M Q := by
  refine s_413_0 ?_
  generalize hA : cel (M.1 500 i) = A at *
  have key : ∀ s y : Nat, y + s = 13 → L_413_4 i (cntL (corB A) 13 y : Int) (y : Int) M Q := by
    intro s
    induction s with
    | zero =>
      intro y hy
      have e : y = 13 := by omega
      refine s_413_4 ⟨fun _ => by rw [e]; exact hQ, fun h => by omega⟩
    | succ s ih =>
      intro y hy
      have hle := cntL_le (corB A) 13 y
      refine s_413_4 ⟨fun h => by omega, fun _ => ?_⟩
      have row : ∀ r x : Nat, x + r = 13 → L_413_12 i ((cntL (corB A) 13 y + cntB (fun x => corB A x y) x : Nat) : Int) (y : Int) (x : Int) M Q := by
        intro r
        induction r with
        | zero =>
          intro x hx
          have e : x = 13 := by omega
          refine s_413_12 ⟨fun _ => ⟨by omega, ?_⟩, fun h => by omega⟩
          have := ih (y + 1) (by omega)
          rw [e]
          rwa [show ((y + 1 : Nat) : Int) = (y : Int) + 1 by omega] at this
        | succ r ihr =>
          intro x hx
          have hle2 := cntB_le (fun x => corB A (x : Nat) y) x
          refine s_413_12 ⟨fun h => by omega, fun _ => c414 hR (by omega) (by omega) ?_⟩
          rw [hA]
          refine ⟨fun _ => by omega, fun z ez => ⟨by omega, ?_⟩⟩
          have e : z = ((cntL (corB A) 13 y + cntB (fun x => corB A x y) (x + 1) : Nat) : Int) := by
            rw [ez]
            cases hb : corB A x y with
            | true =>
              rw [cntB_y (b := fun x => corB A (x : Nat) y) hb, if_neg (by decide)]; omega
            | false => rw [cntB_n (b := fun x => corB A (x : Nat) y) hb, if_pos b2i_f]
          rw [e]
          have := ihr (x + 1) (by omega)
          rwa [show ((x + 1 : Nat) : Int) = (x : Int) + 1 by omega] at this
      exact row 13 0 (by omega)
  exact key 13 0 (by omega)
/-! corners are where phase 0 bends -/
/-! the ends of edges -/
def uq (x y : Int) : Int := 49 * ((y + 1) / 4) + (x + 1) / 4
noncomputable def ptE (P : Int → Int → Bool) (k : Nat) : Int := if xD P (k / 2) % 2 ≠ 0 then 49 * (if k % 2 ≠ 0 then xB P (k / 2) else xA P (k / 2)) + xL P (k / 2) else 49 * xL P (k / 2) + (if k % 2 ≠ 0 then xB P (k / 2) else xA P (k / 2))
theorem ends {P : Int → Int → Bool} (hv : Vok P) {e : Nat} (he : e < vE P) (hd : Dir (xD P e)) : ∃ w, w < vE P ∧ ((ptE P (2 * e) = uq (vX P e) (vY P e) ∧ ptE P (2 * e + 1) = uq (vX P w) (vY P w)) ∨ (ptE P (2 * e + 1) = uq (vX P e) (vY P e) ∧ ptE P (2 * e) = uq (vX P w) (vY P w))) := by
  obtain ⟨⟨hct, hall⟩, hln⟩ := hv
  obtain ⟨c, c1, c2, c3⟩ := hct.find he
  obtain ⟨n1, n2⟩ := LN.nx hct hln c1 c2 c3
  have hw : nxi (vS P c) (vS P (c + 1)) e < vE P := by
    have := hct.mono (show c + 1 ≤ vN P by omega) (Nat.le_refl _)
    unfold nxi
    have hE : vE P = vS P (vN P) := rfl
    split <;> omega
  refine ⟨_, hw, ?_⟩
  rw [n1, n2]
  have k1 : 2 * e / 2 = e := by omega
  have k2 : (2 * e + 1) / 2 = e := by omega
  have k3 : (2 * e) % 2 = 0 := by omega
  have k4 : (2 * e + 1) % 2 = 1 := by omega
  unfold ptE
  rw [k1, k2, k3, k4, if_neg (show ¬ ((0 : Nat) ≠ 0) by omega), if_pos (show (1 : Nat) ≠ 0 by omega)]
  have eD' : xD P e = lvd P (vX P e) (vY P e) := rfl
  have eA : xA P e = (loS (lvd P (vX P e) (vY P e)) (vX P e) (vY P e) (vL P e) + 1) / 4 := rfl
  have eB : xB P e = (hiS (lvd P (vX P e) (vY P e)) (vX P e) (vY P e) (vL P e) + 1) / 4 := rfl
  have eL' : xL P e = (linS (lvd P (vX P e) (vY P e)) (vX P e) (vY P e) + 1) / 4 := rfl
  rw [eA, eB, eL', eD']
  rw [eD'] at hd
  generalize lvd P (vX P e) (vY P e) = d at *
  unfold uq
  rcases hd with rfl | rfl | rfl | rfl
  · have s1 : stepXV 0 = 1 := rfl
    have s2 : stepYV 0 = 0 := rfl
    have s3 : linS 0 (vX P e) (vY P e) = vY P e := rfl
    have s4 : loS 0 (vX P e) (vY P e) (vL P e) = vX P e := rfl
    have s5 : hiS 0 (vX P e) (vY P e) (vL P e) = vX P e + vL P e := rfl
    rw [s1, s2, s3, s4, s5, if_neg (by decide), if_neg (by decide), Int.mul_one, Int.mul_zero, Int.add_zero]
    exact Or.inl ⟨rfl, rfl⟩
  · have s1 : stepXV 1 = 0 := rfl
    have s2 : stepYV 1 = 1 := rfl
    have s3 : linS 1 (vX P e) (vY P e) = vX P e := rfl
    have s4 : loS 1 (vX P e) (vY P e) (vL P e) = vY P e := rfl
    have s5 : hiS 1 (vX P e) (vY P e) (vL P e) = vY P e + vL P e := rfl
    rw [s1, s2, s3, s4, s5, if_pos (by decide), if_pos (by decide), Int.mul_one, Int.mul_zero, Int.add_zero]
    exact Or.inl ⟨rfl, rfl⟩
  · have s1 : stepXV 2 = -1 := rfl
    have s2 : stepYV 2 = 0 := rfl
    have s3 : linS 2 (vX P e) (vY P e) = vY P e := rfl
    have s4 : loS 2 (vX P e) (vY P e) (vL P e) = vX P e - vL P e := rfl
    have s5 : hiS 2 (vX P e) (vY P e) (vL P e) = vX P e := rfl
    rw [s1, s2, s3, s4, s5, if_neg (by decide), if_neg (by decide), Int.mul_zero, Int.add_zero, show (vL P e : Int) * -1 = -(vL P e : Int) by omega]
    exact Or.inr ⟨rfl, rfl⟩
  · have s1 : stepXV 3 = 0 := rfl
    have s2 : stepYV 3 = -1 := rfl
    have s3 : linS 3 (vX P e) (vY P e) = vX P e := rfl
    have s4 : loS 3 (vX P e) (vY P e) (vL P e) = vY P e - vL P e := rfl
    have s5 : hiS 3 (vX P e) (vY P e) (vL P e) = vY P e := rfl
    rw [s1, s2, s3, s4, s5, if_pos (by decide), if_pos (by decide), Int.mul_zero, Int.add_zero, show (vL P e : Int) * -1 = -(vL P e : Int) by omega]
    exact Or.inr ⟨rfl, rfl⟩
/-! counting points in rows -/

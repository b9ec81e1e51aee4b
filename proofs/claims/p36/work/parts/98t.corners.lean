/-! corners, groups, how many sides -/
theorem sum_nn {g : Nat → Int} : ∀ {n : Nat}, (∀ i, i < n → 0 ≤ g i) → 0 ≤ sumN g n
  | 0, _ => Int.le_refl 0
  | n + 1, h => by
    have ih := sum_nn (n := n) fun i hi => h i (by omega)
    have := h n (by omega)
    show 0 ≤ sumN g n + g n
    omega
theorem sum_pos {g : Nat → Int} : ∀ {n : Nat}, (∀ i, i < n → 0 ≤ g i) → ∀ {j : Nat}, j < n → g j ≤ sumN g n
  | 0, _, j, h => absurd h (Nat.not_lt_zero j)
  | n + 1, h, j, hj => by
    have hn := h n (by omega)
    have h0 : 0 ≤ sumN g n := sum_nn fun i hi => h i (by omega)
    show g j ≤ sumN g n + g n
    by_cases e : j = n
    · rw [e]; omega
    · have := sum_pos (n := n) (fun i hi => h i (by omega)) (j := j) (by omega)
      omega
theorem cor_bits : ∀ a b c d : Bool, (!((a == b) && (c == d)) && !((a == c) && (b == d))) = true → ((a ^^ (a && b)) ^^ ((a && c) ^^ ((a && b) && (c && d)))) = true ∨ (((a && b) ^^ b) ^^ (((a && b) && (c && d)) ^^ (b && d))) = true ∨ (((a && c) ^^ ((a && b) && (c && d))) ^^ (c ^^ (c && d))) = true ∨ ((((a && b) && (c && d)) ^^ (b && d)) ^^ ((c && d) ^^ d)) = true := by decide
section CG
variable {f : Nat → Int}
def Pr4 (X x q q' : Int) : Prop := (q = X - 1 ∧ q' = X - 1 ∧ x = 4 * X - 2) ∨ (q = X - 1 ∧ q' = X ∧ (x = 4 * X - 1 ∨ x = 4 * X)) ∨ (q = X ∧ q' = X ∧ x = 4 * X + 1)
theorem Pr4.s {X x q q' : Int} (h : Pr4 X x q q') : (∃ i, (-1 ≤ i ∧ i ≤ 1) ∧ (x + i) / 4 = q) ∧ (∃ i, (-1 ≤ i ∧ i ≤ 1) ∧ (x + i) / 4 = q') ∧ ∀ i, -1 ≤ i → i ≤ 1 → (x + i) / 4 = q ∨ (x + i) / 4 = q' := by
  rcases h with ⟨rfl, rfl, rfl⟩ | ⟨rfl, rfl, rfl | rfl⟩ | ⟨rfl, rfl, rfl⟩
  · exact ⟨⟨0, by omega, by omega⟩, ⟨0, by omega, by omega⟩, fun i a b => by omega⟩
  · exact ⟨⟨0, by omega, by omega⟩, ⟨1, by omega, by omega⟩, fun i a b => by omega⟩
  · exact ⟨⟨-1, by omega, by omega⟩, ⟨0, by omega, by omega⟩, fun i a b => by omega⟩
  · exact ⟨⟨0, by omega, by omega⟩, ⟨0, by omega, by omega⟩, fun i a b => by omega⟩
theorem lay1_c {X Y x y q q' r r' : Int} (hx : Pr4 X x q q') (hy : Pr4 Y y r r') : lay f 1 x y = ((cel f q r && cel f q' r) && (cel f q r' && cel f q' r')) := by
  obtain ⟨⟨i, i1, i2⟩, ⟨i', i3, i4⟩, hi⟩ := hx.s
  obtain ⟨⟨j, j1, j2⟩, ⟨j', j3, j4⟩, hj⟩ := hy.s
  rw [Bool.eq_iff_iff, Bool.and_eq_true, Bool.and_eq_true, Bool.and_eq_true, lay_w]
  constructor
  · intro h
    have a := h i j (by omega) (by omega) (by omega) (by omega)
    have b := h i' j (by omega) (by omega) (by omega) (by omega)
    have c := h i j' (by omega) (by omega) (by omega) (by omega)
    have d := h i' j' (by omega) (by omega) (by omega) (by omega)
    rw [i2, j2] at a
    rw [i4, j2] at b
    rw [i2, j4] at c
    rw [i4, j4] at d
    exact ⟨⟨a, b⟩, c, d⟩
  · rintro ⟨⟨a, b⟩, c, d⟩ k l k1 k2 l1 l2
    rcases hi k (by omega) (by omega) with e | e <;> rcases hj l (by omega) (by omega) with e' | e' <;> rw [e, e'] <;> assumption
theorem crn_bn {X Y : Int} (h : corB (cel f) X Y = true) : ∃ x y, bn (lay f 1) x y = true ∧ (x + 1) / 4 = X ∧ (y + 1) / 4 = Y := by
  have pm2 : ∀ Z : Int, Pr4 Z (4 * Z - 2) (Z - 1) (Z - 1) := fun Z => Or.inl ⟨rfl, rfl, rfl⟩
  have pm1 : ∀ Z : Int, Pr4 Z (4 * Z - 1) (Z - 1) Z := fun Z => Or.inr (Or.inl ⟨rfl, rfl, Or.inl rfl⟩)
  have p0 : ∀ Z : Int, Pr4 Z (4 * Z) (Z - 1) Z := fun Z => Or.inr (Or.inl ⟨rfl, rfl, Or.inr rfl⟩)
  have p1 : ∀ Z : Int, Pr4 Z (4 * Z + 1) Z Z := fun Z => Or.inr (Or.inr ⟨rfl, rfl, rfl⟩)
  have s1 : ∀ Z : Int, 4 * Z - 1 - 1 = 4 * Z - 2 := fun Z => by omega
  have s2 : ∀ Z : Int, 4 * Z + 1 - 1 = 4 * Z := fun Z => by omega
  have hb := cor_bits (cel f (X - 1) (Y - 1)) (cel f X (Y - 1)) (cel f (X - 1) Y) (cel f X Y) h
  rcases hb with g | g | g | g
  · refine ⟨4 * X - 1, 4 * Y - 1, ?_, by omega, by omega⟩
    unfold bn
    rw [s1, s1, lay1_c (pm2 X) (pm2 Y), lay1_c (pm1 X) (pm2 Y), lay1_c (pm2 X) (pm1 Y), lay1_c (pm1 X) (pm1 Y)]
    simp only [Bool.and_self]
    exact g
  · refine ⟨4 * X + 1, 4 * Y - 1, ?_, by omega, by omega⟩
    unfold bn
    rw [s1, s2, lay1_c (p0 X) (pm2 Y), lay1_c (p1 X) (pm2 Y), lay1_c (p0 X) (pm1 Y), lay1_c (p1 X) (pm1 Y)]
    simp only [Bool.and_self]
    exact g
  · refine ⟨4 * X - 1, 4 * Y + 1, ?_, by omega, by omega⟩
    unfold bn
    rw [s1, s2, lay1_c (pm2 X) (p0 Y), lay1_c (pm1 X) (p0 Y), lay1_c (pm2 X) (p1 Y), lay1_c (pm1 X) (p1 Y)]
    simp only [Bool.and_self]
    exact g
  · refine ⟨4 * X + 1, 4 * Y + 1, ?_, by omega, by omega⟩
    unfold bn
    rw [s2, s2, lay1_c (p0 X) (p0 Y), lay1_c (p1 X) (p0 Y), lay1_c (p0 X) (p1 Y), lay1_c (p1 X) (p1 Y)]
    simp only [Bool.and_self]
    exact g
theorem corN_le (h : Vok (lay f 1)) : corN (cel f) ≤ vE (lay f 1) := by
  have e1 : (corN (cel f) : Int) = (cP (fun q => corB (cel f) ((q % 13 : Nat) : Int) ((q / 13 : Nat) : Int) = true) 169 : Int) := by
    unfold corN
    rw [cntL_sum, cP_sum]
    have := sum_flat (fun q => iteP (corB (cel f) ((q % 13 : Nat) : Int) ((q / 13 : Nat) : Int) = true) 1 0) 13 13
    rw [show (169 : Nat) = 13 * 13 from rfl, this]
    refine sumN_congr fun y hy => sumN_congr fun x hx => ?_
    show _ = iteP (corB (cel f) (((13 * y + x) % 13 : Nat) : Int) (((13 * y + x) / 13 : Nat) : Int) = true) 1 0
    rw [show (13 * y + x) % 13 = x by omega, show (13 * y + x) / 13 = y by omega]
    cases e : corB (cel f) x y with
    | true => rw [iteP_t rfl]; rfl
    | false => rw [iteP_f (by decide)]; rfl
  have ex : ∀ q : Nat, ∃ j : Nat, corB (cel f) ((q % 13 : Nat) : Int) ((q / 13 : Nat) : Int) = true → j < vE (lay f 1) ∧ (vX (lay f 1) j + 1) / 4 = ((q % 13 : Nat) : Int) ∧ (vY (lay f 1) j + 1) / 4 = ((q / 13 : Nat) : Int) := by
    intro q
    by_cases c : corB (cel f) ((q % 13 : Nat) : Int) ((q / 13 : Nat) : Int) = true
    · obtain ⟨x, y, b, e1, e2⟩ := crn_bn c
      obtain ⟨j, j1, j2, j3⟩ := h.1.2 x y b
      exact ⟨j, fun _ => ⟨j1, by rw [j2]; exact e1, by rw [j3]; exact e2⟩⟩
    · exact ⟨0, fun g => absurd g c⟩
  obtain ⟨g, hg⟩ := Classical.axiomOfChoice ex
  have := cP_pig (p := fun q => corB (cel f) ((q % 13 : Nat) : Int) ((q / 13 : Nat) : Int) = true) 169 (vE (lay f 1)) g (fun q _ c => (hg q c).1) (fun q r _ _ c1 c2 e => by
    have a := hg q c1
    have b := hg r c2
    rw [e] at a
    omega)
  omega
theorem clN_ex : 0 < clN f 144 ↔ ∃ c, c < 144 ∧ cel f ((c % 12 : Nat) : Int) ((c / 12 : Nat) : Int) = true := by
  constructor
  · intro h
    refine Classical.byContradiction fun g => ?_
    have : clN f 144 = 0 := sumN_z fun c hc => by
      cases e : cel f ((c % 12 : Nat) : Int) ((c / 12 : Nat) : Int) with
      | true => exact absurd ⟨c, hc, e⟩ g
      | false => rfl
    omega
  · rintro ⟨c, hc, e⟩
    have := sum_pos (g := fun c => b2i (cel f ((c % 12 : Nat) : Int) ((c / 12 : Nat) : Int))) (n := 144) (fun i _ => by have := b2i_c (cel f ((i % 12 : Nat) : Int) ((i / 12 : Nat) : Int)); show 0 ≤ b2i _; omega) hc
    have e2 : b2i (cel f ((c % 12 : Nat) : Int) ((c / 12 : Nat) : Int)) = 1 := by rw [e]; rfl
    have this : b2i (cel f ((c % 12 : Nat) : Int) ((c / 12 : Nat) : Int)) ≤ clN f 144 := this
    omega
theorem least_ex {p : Nat → Prop} : ∀ {n : Nat}, (∃ c, c < n ∧ p c) → ∃ c, c < n ∧ p c ∧ ∀ d, d < c → ¬ p d
  | 0, ⟨c, h, _⟩ => absurd h (Nat.not_lt_zero c)
  | n + 1, ⟨c, h, hp⟩ => by
    by_cases g : ∃ c, c < n ∧ p c
    · obtain ⟨c, c1, c2, c3⟩ := least_ex g
      exact ⟨c, by omega, c2, c3⟩
    · have e : c = n := Classical.byContradiction fun q => g ⟨c, by omega, hp⟩
      exact ⟨c, h, hp, fun d hd hd2 => g ⟨d, by omega, hd2⟩⟩
theorem corN_pos : 0 < corN (cel f) ↔ 0 < clN f 144 := by
  rw [clN_ex]
  constructor
  · intro h
    obtain ⟨x, y, hx, hy, g⟩ := cntL_pos h
    refine Classical.byContradiction fun no => ?_
    have z : ∀ a b : Int, cel f a b = false := fun a b => by
      cases e : cel f a b with
      | false => rfl
      | true =>
        have r := cel_in e
        refine absurd ⟨12 * b.toNat + a.toNat, by omega, ?_⟩ no
        rw [show (12 * b.toNat + a.toNat) % 12 = a.toNat by omega, show (12 * b.toNat + a.toNat) / 12 = b.toNat by omega, show ((a.toNat : Nat) : Int) = a by omega, show ((b.toNat : Nat) : Int) = b by omega]
        exact e
    unfold corB at g
    rw [z, z, z, z] at g
    cases g
  · intro h
    obtain ⟨c, c1, c2, c3⟩ := least_ex h
    have z : ∀ a b : Int, (b < ((c / 12 : Nat) : Int) ∨ b = ((c / 12 : Nat) : Int) ∧ a < ((c % 12 : Nat) : Int)) → cel f a b = false := fun a b g => by
      cases e : cel f a b with
      | false => rfl
      | true =>
        have r := cel_in e
        refine absurd ?_ (c3 (12 * b.toNat + a.toNat) (by omega))
        rw [show (12 * b.toNat + a.toNat) % 12 = a.toNat by omega, show (12 * b.toNat + a.toNat) / 12 = b.toNat by omega, show ((a.toNat : Nat) : Int) = a by omega, show ((b.toNat : Nat) : Int) = b by omega]
        exact e
    refine cntL_one (x := c % 12) (y := c / 12) (by omega) (by omega) ?_
    unfold corB
    rw [c2, z _ _ (Or.inl (by omega)), z _ _ (Or.inl (by omega)), z _ _ (Or.inr ⟨rfl, by omega⟩)]
    rfl
/-! groups -/
noncomputable def gfst (P : Int → Int → Bool) (g : Nat) : Nat := @dite Nat (∃ i, Gf P g i) (Classical.propDecidable _) (fun h => Classical.choose h) (fun _ => 0)
theorem gfst_s {P : Int → Int → Bool} {g : Nat} (h : g < xG P) : Gf P g (gfst P g) := by
  have hex := Gf.ex h
  unfold gfst
  rw [dif_pos hex]
  exact Classical.choose_spec hex
theorem cK_first {kk : Nat → Nat} {κ : Nat} : ∀ {n : Nat}, 0 < cK kk n κ → ∃ i, i < n ∧ kk i = κ ∧ cK kk i κ = 0
  | 0, h => absurd h (Nat.lt_irrefl 0)
  | n + 1, h => by
    by_cases g : 0 < cK kk n κ
    · obtain ⟨i, i1, i2⟩ := cK_first g
      exact ⟨i, by omega, i2⟩
    · by_cases e : kk n = κ
      · exact ⟨n, by omega, e, by omega⟩
      · rw [cK_n kk e] at h
        exact absurd h g
theorem grp_sum {P : Int → Int → Bool} (w : Nat → Int) : sumN (fun g => sumN (fun e => if xK P e = xK P (gfst P g) then w e else 0) (vE P)) (xG P) = sumN w (vE P) := by
  rw [sumN_swap (fun g e => if xK P e = xK P (gfst P g) then w e else 0)]
  refine sumN_congr fun e he => ?_
  have hc : 0 < cK (xK P) (vE P) (xK P e) := Nat.lt_of_le_of_lt (Nat.zero_le _) (cK_lt (xK P) he rfl)
  obtain ⟨i, i1, i2, i3⟩ := cK_first hc
  have hG : Gf P (gN (xK P) i) i := ⟨i1, by rw [i2]; exact i3, rfl⟩
  have hlt := hG.lt
  rw [show sumN (fun g => if xK P e = xK P (gfst P g) then w e else 0) (xG P) = sumN (fun q => iteP (q = gN (xK P) i) (w e) 0) (xG P) from sumN_congr fun g hg => ?_, sum_one hlt]
  have hs := gfst_s hg
  by_cases q : g = gN (xK P) i
  · rw [iteP_t q]
    rw [q] at hs
    have := hs.un hG
    rw [q, this, i2, if_pos rfl]
  · rw [iteP_f q]
    refine if_neg fun ek => ?_
    have h0 := hs.2.1
    have h2 := hs.2.2
    rw [← ek] at h0
    rcases Nat.lt_trichotomy (gfst P g) i with t | t | t
    · have := cK_lt (xK P) t ek.symm
      omega
    · rw [t] at h2
      exact q h2.symm
    · have := cK_lt (xK P) t i2
      omega
noncomputable def gS (P : Int → Int → Bool) (w : Int) (n : Nat) : Int := sumN (fun g => gpV P (gfst P g) w) n
theorem gS_2 {P : Int → Int → Bool} : gS P 2 (xG P) = vE P := by
  have h := grp_sum (P := P) (fun _ => 1)
  rw [sumN_c] at h
  have e : gS P 2 (xG P) = sumN (fun g => sumN (fun e => if xK P e = xK P (gfst P g) then 1 else 0) (vE P)) (xG P) := sumN_congr fun g _ => by
    show (cK (xK P) (vE P) (xK P (gfst P g)) : Int) = _
    unfold cK
    rw [cntB_sum]
    refine sumN_congr fun e _ => ?_
    by_cases q : xK P e = xK P (gfst P g)
    · rw [if_pos q, decide_eq_true q]; rfl
    · rw [if_neg q, decide_eq_false q]; rfl
  rw [e, h]
  omega
theorem gS_3 : gS (lay f 1) 3 (xG (lay f 1)) = lnS f (vE (lay f 1)) := grp_sum (P := lay f 1) fun e => xB (lay f 1) e - xA (lay f 1) e
theorem gS_s {P : Int → Int → Bool} {w : Int} {n : Nat} : gS P w (n + 1) = gS P w n + gpV P (gfst P n) w := rfl
theorem xG_le (P : Int → Int → Bool) : xG P ≤ vE P := cntB_le _ _
theorem gS_b (h : Vok (lay f 1)) : ∀ n, n ≤ xG (lay f 1) → (0 ≤ gS (lay f 1) 2 n ∧ gS (lay f 1) 2 n ≤ 312 * n) ∧ -(3744 * (n : Int)) ≤ gS (lay f 1) 3 n ∧ gS (lay f 1) 3 n ≤ 3744 * n
  | 0, _ => ⟨⟨Int.le_refl 0, Int.le_refl 0⟩, by show _ ≤ (0 : Int); omega, by show (0 : Int) ≤ _; omega⟩
  | n + 1, hn => by
    have ih := gS_b h n (by omega)
    have h312 : vE (lay f 1) ≤ 312 := Vok.le (f := f) (k := 0) h |>.2
    have a : gpV (lay f 1) (gfst (lay f 1) n) 2 = (cK (xK (lay f 1)) (vE (lay f 1)) (xK (lay f 1) (gfst (lay f 1) n)) : Int) := rfl
    have b : gpV (lay f 1) (gfst (lay f 1) n) 3 = xW (lay f 1) (xK (lay f 1) (gfst (lay f 1) n)) (vE (lay f 1)) := rfl
    have a2 : cK (xK (lay f 1)) (vE (lay f 1)) (xK (lay f 1) (gfst (lay f 1) n)) ≤ vE (lay f 1) := cntB_le _ _
    have b2 := xW_bd (EG.of h) (κ := xK (lay f 1) (gfst (lay f 1) n)) (Nat.le_refl (vE (lay f 1)))
    rw [gS_s, gS_s, a, b]
    omega
end CG
/-! how many sides -/
theorem sum_odd {g : Nat → Int} : ∀ {n : Nat}, (∀ i, i < n → g i % 2 = 1) → sumN g n % 2 = (n : Int) % 2
  | 0, _ => rfl
  | n + 1, h => by
    have ih := sum_odd (n := n) fun i hi => h i (by omega)
    have := h n (by omega)
    show (sumN g n + g n) % 2 = _
    omega
theorem tnV_c (P : Int → Int → Bool) (x y : Int) : tnV P x y = 1 ∨ tnV P x y = -1 := by
  unfold tnV
  split
  · exact Or.inl rfl
  · exact Or.inr rfl
theorem vE_even {f : Nat → Int} {k : Nat} (h : Vok (lay f (2 * k + 1))) : vE (lay f (2 * k + 1)) % 2 = 0 := by
  have C := ctl h
  have key : ∀ c, c ≤ vN (lay f (2 * k + 1)) → vS (lay f (2 * k + 1)) c % 2 = 0 := by
    intro c
    induction c with
    | zero => intro _; rw [h.1.1.1]
    | succ c ih =>
      intro hc
      have ih := ih (by omega)
      have h4 := h.1.1.four (pk_nod f k) (c := c) (by omega)
      have ht := C.turned (c := c) (m := vS (lay f (2 * k + 1)) (c + 1) - vS (lay f (2 * k + 1)) c) (by omega) (by omega) (by omega)
      have ho := sum_odd (g := fun i => tnV (lay f (2 * k + 1)) (vX (lay f (2 * k + 1)) (vS (lay f (2 * k + 1)) c + i)) (vY (lay f (2 * k + 1)) (vS (lay f (2 * k + 1)) c + i))) (n := vS (lay f (2 * k + 1)) (c + 1) - vS (lay f (2 * k + 1)) c) fun i _ => by
        have := tnV_c (lay f (2 * k + 1)) (vX (lay f (2 * k + 1)) (vS (lay f (2 * k + 1)) c + i)) (vY (lay f (2 * k + 1)) (vS (lay f (2 * k + 1)) c + i))
        show tnV _ _ _ % 2 = 1
        omega
      omega
  exact key _ (Nat.le_refl _)

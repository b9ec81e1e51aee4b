/-! the class: all contours of a phase -/
theorem cntB_sub {b b' : Nat → Bool} : ∀ {n x0 : Nat}, (∀ x, x < n → b' x = true → b x = true) → x0 < n → b x0 = true → b' x0 = false → cntB b' n < cntB b n
  | 0, x0, _, h, _, _ => absurd h (Nat.not_lt_zero x0)
  | n + 1, x0, h, h1, h2, h3 => by
    show cntB b' n + (bif b' n then 1 else 0) < cntB b n + (bif b n then 1 else 0)
    have le : ∀ m, m ≤ n + 1 → cntB b' m ≤ cntB b m := by
      intro m
      induction m with
      | zero => intro _; exact Nat.le_refl _
      | succ m ih =>
        intro hm
        have := ih (by omega)
        have k := h m (by omega)
        show cntB b' m + (bif b' m then 1 else 0) ≤ cntB b m + (bif b m then 1 else 0)
        cases e : b' m with
        | false => cases b m <;> simp <;> omega
        | true => rw [k e]; simp; omega
    by_cases e : x0 = n
    · subst e
      have := le x0 (by omega)
      rw [h2, h3]
      simp
      omega
    · have ih := cntB_sub (b := b) (b' := b') (n := n) (fun x hx => h x (by omega)) (show x0 < n by omega) h2 h3
      have k := h n (by omega)
      cases e : b' n with
      | false => cases b n <;> simp <;> omega
      | true => rw [k e]; simp; omega
/-- the contours of a phase as the class keeps them -/
def ClO (M : Mm) (k : Nat) (P : Int → Int → Bool) (n : Nat) (st : Nat → Nat) (xs ys : Nat → Int) (ln : Nat → Nat) : Prop := Cf P n st xs ys ∧ (∀ i, i < st n → SideC M k i P (xs i) (ys i) (ln i)) ∧ (∀ c, c < n → ConC M k c P st xs ys ln) ∧ M.1 2 k 11 = n ∧ M.1 2 k 12 = sumN (fun c => hol P (xs (st c)) (ys (st c))) n ∧ M.1 2 k 13 = st n ∧ M.1 2 k 14 = cntB (fun j => fl P (xs j) (ys j)) (st n) ∧ M.1 2 k 15 = cum ln (st n)
def T201 (k t j : Nat) : Prop := (t = 2 ∨ t = 300 ∨ t = 301 ∨ t = 302 ∨ t = 303 ∨ t = 304 ∨ t = 305 ∨ t = 306 ∨ t = 307 ∨ t = 308 ∨ t = 309 ∨ t = 310) ∧ j = k
theorem c201 {f : Nat → Int} {k : Nat} {M : Mm} {Q : Mm → Prop} (hph : PhC M f k) (hQ : ∀ M' n st xs ys ln, Fx (T201 k) M M' → ClO M' k (lay f (2 * k + 1)) n st xs ys ln → Q M') : E_201 k k M Q := by
  have hg := lay_g f (2 * k + 1)
  refine s_201_0 fun M1 e1 M2 e2 M3 e3 M4 e4 M5 e5 => ?_
  have f5 : Fx (T201 k) M M5 := by
    rw [e5, e4, e3, e2, e1]
    exact ((((Fx.setI ⟨by simp, rfl⟩).tr (Fx.setI ⟨by simp, rfl⟩)).tr (Fx.setI ⟨by simp, rfl⟩)).tr (Fx.setI ⟨by simp, rfl⟩)).tr (Fx.setI ⟨by simp, rfl⟩)
  have q5 : M5.1 2 k = ups (ups (ups (ups (ups (M.1 2 k) 11 0) 12 0) 13 0) 14 0) 15 0 := by rw [e5, setI_at, e4, setI_at, e3, setI_at, e2, setI_at, e1, setI_at]
  have ph5 : PhC M5 f k := hph.keep ⟨⟨by rw [(f5 3 k (by simp [T201])).1], (f5 402 k (by simp [T201])).1, (f5 404 k (by simp [T201])).1, (f5 405 k (by simp [T201])).1⟩, (f5 401 k (by simp [T201])).2, (f5 403 k (by simp [T201])).2⟩
  refine c202 hg ph5.1 fun M6 f6 hB hU => ?_
  have f56 : Fx (T201 k) M M6 := f5.tr (f6.up fun t j g => ⟨by rcases g.1 with h | h <;> simp [h], g.2⟩)
  have ph6 : PhC M6 f k := hph.keep ⟨⟨by rw [(f56 3 k (by simp [T201])).1], (f56 402 k (by simp [T201])).1, (f56 404 k (by simp [T201])).1, (f56 405 k (by simp [T201])).1⟩, (f56 401 k (by simp [T201])).2, (f56 403 k (by simp [T201])).2⟩
  have q6 : M6.1 2 k = M5.1 2 k := (f6 2 k (by simp [T202])).1
  have fin : ∀ M' n st xs ys ln, Cf (lay f (2 * k + 1)) n st xs ys → OC M6 M' k (lay f (2 * k + 1)) n (st n) st xs ys ln → M'.1 2 k 14 = cntB (fun j => fl (lay f (2 * k + 1)) (xs j) (ys j)) (st n) → M'.1 2 k 15 = cum ln (st n) → Q M' := by
    intro M' n st xs ys ln h1 ⟨o1, o2, o3, o4, o5, o6, o7⟩ h14 h15
    exact hQ M' n st xs ys ln (f56.tr (o1.up fun t j g => ⟨by rcases g.1 with h | h | h | h | h | h | h | h | h | h | h <;> simp [h], g.2⟩)) ⟨h1, o3, o4, o5, o6, o7, h14, h15⟩
  have key : ∀ (s y n : Nat) (st : Nat → Nat) (xs ys : Nat → Int) (ln : Nat → Nat) (M' : Mm), y + s = 49 → Ct (lay f (2 * k + 1)) n st xs ys → OC M6 M' k (lay f (2 * k + 1)) n (st n) st xs ys ln → M'.1 2 k 14 = cntB (fun j => fl (lay f (2 * k + 1)) (xs j) (ys j)) (st n) → M'.1 2 k 15 = cum ln (st n) → (∀ u v, bn (lay f (2 * k + 1)) u v = true → v < y → ∃ j, j < st n ∧ xs j = u ∧ ys j = v) → L_201_32 k k (y : Int) M' Q := by
    intro s
    induction s with
    | zero =>
      intro y n st xs ys ln M7 hy g1 g2 g3 g4 g5
      have e : y = 49 := by omega
      subst e
      exact s_201_32 ⟨fun _ => fin M7 n st xs ys ln ⟨g1, fun u v hb => g5 u v hb (by have := bn_in hg hb; omega)⟩ g2 g3 g4, fun g => by omega⟩
    | succ s ih =>
      intro y n st xs ys ln M7 hy g1 g2 g3 g4 g5
      refine s_201_32 ⟨fun g => by omega, fun _ => ?_⟩
      have inner : ∀ (t i n : Nat) (st : Nat → Nat) (xs ys : Nat → Int) (ln : Nat → Nat) (M' : Mm), i + t = 49 → Ct (lay f (2 * k + 1)) n st xs ys → OC M6 M' k (lay f (2 * k + 1)) n (st n) st xs ys ln → M'.1 2 k 14 = cntB (fun j => fl (lay f (2 * k + 1)) (xs j) (ys j)) (st n) → M'.1 2 k 15 = cum ln (st n) → (∀ u v, bn (lay f (2 * k + 1)) u v = true → v < y → ∃ j, j < st n ∧ xs j = u ∧ ys j = v) → cntB (bJ (M'.2 310 k y)) 49 + i ≤ 49 → L_201_43 k k (y : Int) (i : Int) M' Q := by
        intro t
        induction t with
        | zero =>
          intro i n st xs ys ln M8 hi k1 k2 k3 k4 k5 k6
          refine s_201_43 ⟨fun _ => ⟨by omega, ih (y + 1) n st xs ys ln M8 (by omega) k1 k2 k3 k4 fun u v hb hv => ?_⟩, fun g => by omega⟩
          by_cases e : v < y
          · exact k5 u v hb e
          · have hbi := bn_in hg hb
            obtain ⟨a, rfl⟩ : ∃ a : Nat, u = a := ⟨u.toNat, by omega⟩
            have ev : v = (y : Int) := by omega
            subst ev
            refine Classical.byContradiction fun hno => ?_
            have hbit : bJ (M8.2 310 k y) a = true := (k2.2.1 y (by omega) a).mpr ⟨by omega, hb, fun j hj h => hno ⟨j, hj, h⟩⟩
            have := cntB_one (b := bJ (M8.2 310 k y)) (n := 49) (x := a) (by omega) hbit
            omega
        | succ t ih2 =>
          intro i n st xs ys ln M8 hi k1 k2 k3 k4 k5 k6
          refine s_201_43 ⟨fun g => by omega, fun _ => ⟨by omega, ?_⟩⟩
          rw [Int.toNat_natCast]
          refine ⟨fun hz => ⟨by omega, ih (y + 1) n st xs ys ln M8 (by omega) k1 k2 k3 k4 fun u v hb hv => ?_⟩, fun hz => ⟨by omega, ?_⟩⟩
          · by_cases e : v < y
            · exact k5 u v hb e
            · have hbi := bn_in hg hb
              obtain ⟨a, rfl⟩ : ∃ a : Nat, u = a := ⟨u.toNat, by omega⟩
              have ev : v = (y : Int) := by omega
              subst ev
              refine Classical.byContradiction fun hno => ?_
              have hbit : bJ (M8.2 310 k y) a = true := (k2.2.1 y (by omega) a).mpr ⟨by omega, hb, fun j hj h => hno ⟨j, hj, h⟩⟩
              rw [hz, bJ_0] at hbit
              cases hbit
          · have h48 : ∀ x, 48 ≤ x → bJ (M8.2 310 k y) x = false := by
              intro x hx
              cases e : bJ (M8.2 310 k y) x with
              | false => rfl
              | true =>
                have := (k2.2.1 y (by omega) x).mp e
                have := bn_rng this.2.1
                omega
            obtain ⟨a, b, h1, h2, h3, h4, -, -, h7⟩ := run_b hz h48
            have hab := (k2.2.1 y (by omega) a).mp (h4 a (Nat.le_refl a) h1)
            rw [h7]
            refine c203 (M0 := M6) ph6 hB k1 k2 k3 k4 hab.2.1 hab.2.2 (fun u v hb hk => ?_) fun M9 st' xs' ys' ln' c1 c2 c3 c4 c5 c6 => ⟨by omega, ih2 (i + 1) (n + 1) st' xs' ys' ln' M9 (by omega) c1 c2 c3 c4 (fun u v hb hv => c5 u v (k5 u v hb hv)) ?_⟩
            · by_cases e : v < y
              · exact k5 u v hb e
              · have hbi := bn_in hg hb
                obtain ⟨c, rfl⟩ : ∃ a : Nat, u = a := ⟨u.toNat, by omega⟩
                have ev : v = (y : Int) := by unfold kxy at hk; omega
                subst ev
                have hca : c < a := by unfold kxy at hk; omega
                refine Classical.byContradiction fun hno => ?_
                have hbit : bJ (M8.2 310 k y) c = true := (k2.2.1 y (by omega) c).mpr ⟨by omega, hb, fun j hj h => hno ⟨j, hj, h⟩⟩
                rw [h3 c hca] at hbit
                cases hbit
            · have := cntB_sub (b := bJ (M8.2 310 k y)) (b' := bJ (M9.2 310 k y)) (n := 49) (x0 := a) (fun x _ hx => by
                have hx' := (c2.2.1 y (by omega) x).mp hx
                exact (k2.2.1 y (by omega) x).mpr ⟨hx'.1, hx'.2.1, fun j hj h => by
                  obtain ⟨j', j1, j2⟩ := c5 x y ⟨j, hj, h⟩
                  exact hx'.2.2 j' j1 j2⟩) (by omega) (h4 a (Nat.le_refl a) h1) (by
                cases e : bJ (M9.2 310 k y) a with
                | false => rfl
                | true =>
                  have hx' := (c2.2.1 y (by omega) a).mp e
                  obtain ⟨j', j1, j2⟩ := c6
                  exact absurd j2 (hx'.2.2 j' j1))
              omega
      have hc := cntB_le (bJ (M7.2 310 k y)) 49
      exact inner 49 0 n st xs ys ln M7 rfl g1 g2 g3 g4 g5 (by omega)
  refine key 49 0 0 (fun _ => 0) (fun _ => 0) (fun _ => 0) (fun _ => 0) M6 rfl ⟨rfl, fun c hc => absurd hc (Nat.not_lt_zero c), fun i j hi => absurd hi (Nat.not_lt_zero i)⟩ ⟨Fx.rf, fun y hy x => ?_, fun i hi => absurd hi (Nat.not_lt_zero i), fun c hc => absurd hc (Nat.not_lt_zero c), ?_, ?_, ?_⟩ ?_ ?_ (fun u v hb hv => by have := bn_in hg hb; omega)
  · rw [hU y hy x, Bool.and_eq_true]
    constructor
    · rintro ⟨a, b⟩
      exact ⟨of_decide_eq_true a, b, fun j hj => absurd hj (Nat.not_lt_zero j)⟩
    · rintro ⟨a, b, -⟩
      exact ⟨decide_eq_true a, b⟩
  · rw [q6, q5, ups_ne (by omega), ups_ne (by omega), ups_ne (by omega), ups_ne (by omega), ups_at]; rfl
  · rw [q6, q5, ups_ne (by omega), ups_ne (by omega), ups_ne (by omega), ups_at]; rfl
  · rw [q6, q5, ups_ne (by omega), ups_ne (by omega), ups_at]; rfl
  · rw [q6, q5, ups_ne (by omega), ups_at]; rfl
  · rw [q6, q5, ups_at]; rfl

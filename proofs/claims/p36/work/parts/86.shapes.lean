/-! symmetries: the class -/
theorem bZ_hi {v : Int} (h0 : 0 ≤ v) (h1 : v < 4096) {x : Nat} (hx : 12 ≤ x) : bZ v x = false := by
  rw [bZ_nat h0 (by omega)]
  exact Nat.testBit_lt_two_pow (Nat.lt_of_lt_of_le (show v.toNat < 4096 by omega) (Nat.pow_le_pow_right (n := 2) (by omega) hx))
def rotA (A : Int → Int → Bool) : Int → Int → Bool := fun u v => A v (11 - u)
def mirA (A : Int → Int → Bool) : Int → Int → Bool := fun u v => A (11 - u) v
theorem cel_rot {f g : Nat → Int} (h : ∀ v, v < 12 → g v = tq f v 12) : cel g = rotA (cel f) := by
  funext u v
  unfold rotA
  by_cases q : 0 ≤ u ∧ u < 12 ∧ 0 ≤ v ∧ v < 12
  · obtain ⟨a, rfl⟩ : ∃ a : Nat, u = a := ⟨u.toNat, by omega⟩
    obtain ⟨b, rfl⟩ : ∃ b : Nat, v = b := ⟨v.toNat, by omega⟩
    rw [cel_nat g (by omega) (by omega), h b (by omega), (tq_bit (Nat.le_refl 12)).2, decide_eq_true (by omega), Bool.true_and, show (11 : Int) - (a : Int) = ((11 - a : Nat) : Int) by omega]
  · rw [cel_out q, cel_out (by omega)]
theorem cel_mir {f g : Nat → Int} (h : ∀ v, v < 12 → g v = mq f v 12) : cel g = mirA (cel f) := by
  funext u v
  unfold mirA
  by_cases q : 0 ≤ u ∧ u < 12 ∧ 0 ≤ v ∧ v < 12
  · obtain ⟨a, rfl⟩ : ∃ a : Nat, u = a := ⟨u.toNat, by omega⟩
    obtain ⟨b, rfl⟩ : ∃ b : Nat, v = b := ⟨v.toNat, by omega⟩
    rw [cel_nat g (by omega) (by omega), h b (by omega), (mq_bit (Nat.le_refl 12)).2, decide_eq_true (by omega), Bool.true_and, show (11 : Int) - (a : Int) = ((11 - a : Nat) : Int) by omega]
  · rw [cel_out q, cel_out (by omega)]
/-- a moved copy -/
def Shp (A B : Int → Int → Bool) : Prop := ∃ dx dy : Int, ∀ x y, A (x + dx) (y + dy) = B x y
/-- the least x, the least y -/
def MnX (A : Int → Int → Bool) (x : Int) : Prop := (0 ≤ x ∧ x < 12) ∧ (((∀ a b, A a b = false) ∧ x = 0) ∨ ((∃ b, A x b = true) ∧ ∀ a b, A a b = true → x ≤ a))
def MnY (A : Int → Int → Bool) (y : Int) : Prop := (0 ≤ y ∧ y < 12) ∧ (((∀ a b, A a b = false) ∧ y = 0) ∨ ((∃ a, A a y = true) ∧ ∀ a b, A a b = true → y ≤ b))
def orF (f : Nat → Int) : Nat → Int
  | 0 => 0
  | n + 1 => ior' (orF f n) (f n)
theorem orF_in (f : Nat → Int) : ∀ n, inR (orF f n)
  | 0 => by unfold orF inR; omega
  | n + 1 => ior_in _ _
theorem orF_b (f : Nat → Int) (x : Nat) : ∀ n, bZ (orF f n) x = true ↔ ∃ y, y < n ∧ bZ (f y) x = true
  | 0 => by
    show bZ 0 x = true ↔ _
    rw [bZ_0]
    exact ⟨fun h => (by cases h), fun ⟨y, h, _⟩ => absurd h (Nat.not_lt_zero y)⟩
  | n + 1 => by
    show bZ (ior' (orF f n) (f n)) x = true ↔ _
    rw [bZ_or, Bool.or_eq_true, orF_b f x n]
    constructor
    · rintro (⟨y, h1, h2⟩ | h)
      · exact ⟨y, by omega, h2⟩
      · exact ⟨n, Nat.lt_succ_self n, h⟩
    · rintro ⟨y, h1, h2⟩
      by_cases q : y = n
      · rw [q] at h2; exact Or.inr h2
      · exact Or.inl ⟨y, by omega, h2⟩
theorem c411 {i : Nat} {M : Mm} {Q : Int → Mm → Prop} (hR : R12 (M.1 500 i)) (hQ : ∀ x, MnX (cel (M.1 500 i)) x → Q x M) : E_411 i M Q := by
  generalize hf : M.1 500 i = f at *
  refine s_411_0 ?_
  have hb : ∀ x : Nat, x < 12 → (bZ (orF f 12) x = true ↔ ∃ b, cel f x b = true) := by
    intro x hx
    rw [orF_b]
    constructor
    · rintro ⟨y, h1, h2⟩
      exact ⟨(y : Int), by rw [cel_nat f hx h1]; exact h2⟩
    · rintro ⟨b, h⟩
      have hin := cel_in h
      obtain ⟨c, rfl⟩ : ∃ c : Nat, b = c := ⟨b.toNat, by omega⟩
      rw [cel_nat f hx (by omega)] at h
      exact ⟨c, by omega, h⟩
  have h0 : 0 ≤ orF f 12 ∧ orF f 12 < 4096 := lt12 (orF_in f 12) fun x hx => by
    cases hc : bZ (orF f 12) x with
    | false => rfl
    | true =>
      obtain ⟨y, h1, h2⟩ := (orF_b f x 12).mp hc
      rw [bZ_hi (hR y h1).1 (hR y h1).2 hx] at h2
      cases h2
  have second : ∀ s x : Nat, x + s = 12 → (∀ a, a < x → bZ (orF f 12) a = false) → L_411_30 i (orF f 12) (x : Int) M Q := by
    intro s
    induction s with
    | zero =>
      intro x hx hn
      refine s_411_30 ⟨fun _ => hQ 0 ⟨by omega, Or.inl ⟨fun a b => ?_, rfl⟩⟩, fun h => by omega⟩
      cases hc : cel f a b with
      | false => rfl
      | true =>
        have hin := cel_in hc
        obtain ⟨c, rfl⟩ : ∃ c : Nat, a = c := ⟨a.toNat, by omega⟩
        have := (hb c (by omega)).mpr ⟨b, hc⟩
        rw [hn c (by omega)] at this
        cases this
    | succ s ih =>
      intro x hx hn
      refine s_411_30 ⟨fun h => by omega, fun _ => ?_⟩
      rw [bit_i (by omega) h0.1 (by omega)]
      cases hc : bZ (orF f 12) x with
      | false =>
        refine ⟨fun _ => ⟨by omega, ?_⟩, fun h => absurd rfl h⟩
        have := ih (x + 1) (by omega) fun a ha => by
          by_cases q : a = x
          · rw [q]; exact hc
          · exact hn a (by omega)
        rwa [show ((x + 1 : Nat) : Int) = (x : Int) + 1 by omega] at this
      | true =>
        refine ⟨fun h => absurd h (by decide), fun _ => hQ x ⟨by omega, Or.inr ⟨(hb x (by omega)).mp hc, fun a b hab => ?_⟩⟩⟩
        have hin := cel_in hab
        obtain ⟨c, rfl⟩ : ∃ c : Nat, a = c := ⟨a.toNat, by omega⟩
        have hcb := (hb c (by omega)).mpr ⟨b, hab⟩
        rcases Nat.lt_or_ge c x with q | q
        · rw [hn c q] at hcb; cases hcb
        · omega
  have first : ∀ s y : Nat, y + s = 12 → L_411_4 i (orF f y) (y : Int) M Q := by
    intro s
    induction s with
    | zero =>
      intro y hy
      have e : y = 12 := by omega
      refine s_411_4 ⟨fun _ => ?_, fun h => by omega⟩
      rw [e]
      exact second 12 0 (by omega) fun a h => absurd h (Nat.not_lt_zero a)
    | succ s ih =>
      intro y hy
      refine s_411_4 ⟨fun h => by omega, fun _ => ⟨by omega, fun x ex => ⟨by omega, ?_⟩⟩⟩
      have e : x = orF f (y + 1) := by rw [ex, hf, Int.toNat_natCast]; rfl
      rw [e]
      have := ih (y + 1) (by omega)
      rwa [show ((y + 1 : Nat) : Int) = (y : Int) + 1 by omega] at this
  exact first 12 0 (by omega)
theorem row_0 {f : Nat → Int} (hR : R12 f) {y : Nat} (hy : y < 12) : f y = 0 ↔ ∀ a, cel f a y = false := by
  constructor
  · intro h a
    by_cases q : 0 ≤ a ∧ a < 12
    · obtain ⟨c, rfl⟩ : ∃ c : Nat, a = c := ⟨a.toNat, by omega⟩
      rw [cel_nat f (by omega) hy, h, bZ_0]
    · exact cel_out (by omega)
  · intro h
    obtain ⟨h1, h2⟩ := hR y hy
    refine bZ_ext (by unfold inR; omega) (by unfold inR; omega) fun x hx => ?_
    rw [bZ_0]
    by_cases q : x < 12
    · rw [← cel_nat f q hy]; exact h x
    · exact bZ_hi h1 h2 (by omega)
theorem c412 {i : Nat} {M : Mm} {Q : Int → Mm → Prop} (hR : R12 (M.1 500 i)) (hQ : ∀ y, MnY (cel (M.1 500 i)) y → Q y M) : E_412 i M Q := by
  generalize hf : M.1 500 i = f at *
  refine s_412_0 ?_
  have key : ∀ s y : Nat, y + s = 12 → (∀ b, b < y → f b = 0) → L_412_2 i (y : Int) M Q := by
    intro s
    induction s with
    | zero =>
      intro y hy hn
      refine s_412_2 ⟨fun _ => hQ 0 ⟨by omega, Or.inl ⟨fun a b => ?_, rfl⟩⟩, fun h => by omega⟩
      cases hc : cel f a b with
      | false => rfl
      | true =>
        have hin := cel_in hc
        obtain ⟨c, rfl⟩ : ∃ c : Nat, b = c := ⟨b.toNat, by omega⟩
        rw [(row_0 hR (by omega)).mp (hn c (by omega)) a] at hc
        cases hc
    | succ s ih =>
      intro y hy hn
      refine s_412_2 ⟨fun h => by omega, fun _ => ⟨by omega, ?_⟩⟩
      rw [Int.toNat_natCast, hf]
      refine ⟨fun h0 => ⟨by omega, ?_⟩, fun hne => hQ y ⟨by omega, Or.inr ⟨?_, fun a b hab => ?_⟩⟩⟩
      · have := ih (y + 1) (by omega) fun b hb => by
          by_cases q : b = y
          · rw [q]; exact h0
          · exact hn b (by omega)
        rwa [show ((y + 1 : Nat) : Int) = (y : Int) + 1 by omega] at this
      · refine Classical.byContradiction fun hno => hne ((row_0 hR (by omega)).mpr fun a => ?_)
        cases hc : cel f a y with
        | false => rfl
        | true => exact absurd ⟨a, hc⟩ hno
      · have hin := cel_in hab
        obtain ⟨c, rfl⟩ : ∃ c : Nat, b = c := ⟨b.toNat, by omega⟩
        rcases Nat.lt_or_ge c y with q | q
        · rw [(row_0 hR (by omega)).mp (hn c q) a] at hab; cases hab
        · omega
  exact key 12 0 (by omega) fun b h => absurd h (Nat.not_lt_zero b)
/-- a row from a column on, bit by bit -/
theorem row_bit {f : Nat → Int} (hR : R12 f) {x Y : Int} (hx : 0 ≤ x) (hx1 : x < 12) (hY : 0 ≤ Y) (c : Nat) : bZ (isr (atN 12 f Y) x) c = cel f (x + c) Y := by
  obtain ⟨k, rfl⟩ : ∃ k : Nat, x = k := ⟨x.toNat, by omega⟩
  by_cases q : Y < 12
  · obtain ⟨y, rfl⟩ : ∃ y : Nat, Y = y := ⟨Y.toNat, by omega⟩
    have h1 := hR y (by omega)
    rw [atN_in (by omega), bZ_shr (by omega) h1.1 (by omega)]
    by_cases q2 : k + c < 12
    · rw [show (k : Int) + (c : Int) = ((k + c : Nat) : Int) by omega, cel_nat f q2 (by omega)]
    · rw [bZ_hi h1.1 h1.2 (by omega), cel_out (by omega)]
  · rw [atN_o (by omega), bZ_shr (by omega) (by omega) (by omega), bZ_0, cel_out (by omega)]
theorem row_eq {f g : Nat → Int} (hf : R12 f) (hg : R12 g) {x X y Y : Int} (hx : 0 ≤ x ∧ x < 12) (hX : 0 ≤ X ∧ X < 12) (hy : 0 ≤ y) (hY : 0 ≤ Y) : isr (atN 12 f y) x = isr (atN 12 g Y) X ↔ ∀ c : Nat, cel f (x + c) y = cel g (X + c) Y := by
  constructor
  · intro h c
    rw [← row_bit hf hx.1 hx.2 hy c, h, row_bit hg hX.1 hX.2 hY c]
  · intro h
    refine bZ_ext (ti_in _) (ti_in _) fun c hc => ?_
    rw [row_bit hf hx.1 hx.2 hy c, h c, row_bit hg hX.1 hX.2 hY c]
/-- with the least corners laid on each other, the rows are equal: a moved copy -/
theorem shp_rows {f g : Nat → Int} {x y X Y : Int} (a1 : MnX (cel f) x) (a2 : MnY (cel f) y) (b1 : MnX (cel g) X) (b2 : MnY (cel g) Y) : Shp (cel f) (cel g) ↔ ∀ r : Nat, r < 12 → ∀ c : Nat, cel f (x + c) (y + r) = cel g (X + c) (Y + r) := by
  obtain ⟨rx, a1⟩ := a1
  obtain ⟨ry, a2⟩ := a2
  obtain ⟨rX, b1⟩ := b1
  obtain ⟨rY, b2⟩ := b2
  constructor
  · rintro ⟨dx, dy, h⟩ r hr c
    rcases b1 with ⟨z1, z2⟩ | ⟨⟨b, hb⟩, hb1⟩
    · have zf : ∀ u v, cel f u v = false := fun u v => by
        have := h (u - dx) (v - dy)
        rw [show u - dx + dx = u by omega, show v - dy + dy = v by omega, z1] at this
        exact this
      rw [z1, zf]
    · have hne : cel f (X + dx) (b + dy) = true := by rw [h]; exact hb
      rcases a1 with ⟨z, -⟩ | ⟨⟨b', hb'⟩, ha1⟩
      · rw [z] at hne; cases hne
      · rcases a2 with ⟨z, -⟩ | ⟨⟨a', ha'⟩, ha2⟩
        · rw [z] at hne; cases hne
        · rcases b2 with ⟨z, -⟩ | ⟨⟨a, ha⟩, hb2⟩
          · rw [z] at hb; cases hb
          · have q1 := ha1 _ _ hne
            have q2 := hb1 (x - dx) (b' - dy) (by rw [← h, show x - dx + dx = x by omega, show b' - dy + dy = b' by omega]; exact hb')
            have q3 := ha2 (a + dx) (Y + dy) (by rw [h]; exact ha)
            have q4 := hb2 (a' - dx) (y - dy) (by rw [← h, show a' - dx + dx = a' by omega, show y - dy + dy = y by omega]; exact ha')
            have := h (X + c) (Y + r)
            rw [show X + (c : Int) + dx = x + c by omega, show Y + (r : Int) + dy = y + r by omega] at this
            exact this
  · intro h
    refine ⟨x - X, y - Y, fun u v => ?_⟩
    by_cases q : X ≤ u ∧ Y ≤ v ∧ v < Y + 12
    · have := h (v - Y).toNat (by omega) (u - X).toNat
      rw [show x + ((u - X).toNat : Int) = u + (x - X) by omega, show y + ((v - Y).toNat : Int) = v + (y - Y) by omega, show X + ((u - X).toNat : Int) = u by omega, show Y + ((v - Y).toNat : Int) = v by omega] at this
      exact this
    · have hg0 : cel g u v = false := by
        cases hc : cel g u v with
        | false => rfl
        | true =>
          have hin := cel_in hc
          rcases b1 with ⟨z, -⟩ | ⟨-, hb1⟩
          · rw [z] at hc; cases hc
          · rcases b2 with ⟨z, -⟩ | ⟨-, hb2⟩
            · rw [z] at hc; cases hc
            · have := hb1 _ _ hc
              have := hb2 _ _ hc
              omega
      have hf0 : cel f (u + (x - X)) (v + (y - Y)) = false := by
        cases hc : cel f (u + (x - X)) (v + (y - Y)) with
        | false => rfl
        | true =>
          have hin := cel_in hc
          rcases a1 with ⟨z, -⟩ | ⟨-, ha1⟩
          · rw [z] at hc; cases hc
          · rcases a2 with ⟨z, -⟩ | ⟨-, ha2⟩
            · rw [z] at hc; cases hc
            · have := ha1 _ _ hc
              have := ha2 _ _ hc
              omega
      rw [hg0, hf0]
theorem c410 {i j : Nat} {M : Mm} {Q : Int → Mm → Prop} (hi : R12 (M.1 500 i)) (hj : R12 (M.1 500 j)) (h1 : Shp (cel (M.1 500 i)) (cel (M.1 500 j)) → Q 1 M) (h0 : ¬ Shp (cel (M.1 500 i)) (cel (M.1 500 j)) → Q 0 M) : E_410 i j M Q := by
  refine s_410_0 (c411 hi fun x a1 => c412 hi fun y a2 => c411 hj fun X b1 => c412 hj fun Y b2 => ?_)
  have hs := shp_rows a1 a2 b1 b2
  have rx := a1.1
  have ry := a2.1
  have rX := b1.1
  have rY := b2.1
  have key : ∀ s r : Nat, r + s = 12 → (∀ r', r' < r → ∀ c : Nat, cel (M.1 500 i) (x + c) (y + r') = cel (M.1 500 j) (X + c) (Y + r')) → L_410_25 i j x y X Y (r : Int) M Q := by
    intro s
    induction s with
    | zero =>
      intro r hr hn
      exact s_410_25 ⟨fun _ => h1 (hs.mpr fun r' hr' => hn r' (by omega)), fun h => by omega⟩
    | succ s ih =>
      intro r hr hn
      have he := row_eq hi hj rx rX (show 0 ≤ y + (r : Int) by omega) (show 0 ≤ Y + (r : Int) by omega)
      refine s_410_25 ⟨fun h => by omega, fun _ => ⟨by omega, by omega, fun heq => ⟨by omega, ?_⟩, fun hne => h0 fun g => hne (he.mpr (hs.mp g r (by omega)))⟩⟩
      have := ih (r + 1) (by omega) fun r' hr' => by
        by_cases q : r' = r
        · rw [q]; exact he.mp heq
        · exact hn r' (by omega)
      rwa [show ((r + 1 : Nat) : Int) = (r : Int) + 1 by omega] at this
  exact key 12 0 (by omega) fun r h => absurd h (Nat.not_lt_zero r)
theorem c404 {i j : Nat} {M : Mm} {Q : Mm → Prop} (hij : i ≠ j) (hQ : ∀ M', Fx (fun t o => t = 500 ∧ o = i) M M' → (∀ y, y < 12 → M'.1 500 i y = M.1 500 j y) → Q M') : E_404 i j M Q := by
  refine Ev.mono (e404 hij) fun v M' h => ⟨h.2, hQ M' ?_ fun y hy => ?_⟩
  · rw [h.1]; exact Fx.setA ⟨rfl, rfl⟩
  · rw [h.1, setA_at]
    exact if_pos hy
/-- the image after n steps -/
def imgA (A : Int → Int → Bool) : Nat → Int → Int → Bool
  | 0 => A
  | n + 1 => if n = 3 then mirA (rotA (imgA A n)) else rotA (imgA A n)
noncomputable def shB (A B : Int → Int → Bool) : Bool := @decide (Shp A B) (Classical.propDecidable _)
theorem shB_t {A B : Int → Int → Bool} (h : Shp A B) : shB A B = true := by
  unfold shB
  exact @decide_eq_true _ (Classical.propDecidable _) h
theorem shB_f {A B : Int → Int → Bool} (h : ¬ Shp A B) : shB A B = false := by
  unfold shB
  exact @decide_eq_false _ (Classical.propDecidable _) h
theorem R12.cg {f g : Nat → Int} (h : R12 f) (e : ∀ y, y < 12 → g y = f y) : R12 g := fun y hy => by rw [e y hy]; exact h y hy
theorem cel_cg {f g : Nat → Int} (h : ∀ y, y < 12 → f y = g y) : cel f = cel g := by
  funext x y
  exact cel_congr h x y
/-- how many of the eight images are moved copies -/
noncomputable def symV (A : Int → Int → Bool) : Nat := cntB (fun n => shB (imgA A n) A) 8
theorem c409 {i j : Nat} {M : Mm} {Q : Int → Mm → Prop} (hij : i ≠ j) (hR : R12 (M.1 500 i)) (hQ : ∀ M', Fx (fun t o => (t = 500 ∨ t = 501) ∧ o = j) M M' → Q (symV (cel (M.1 500 i))) M') : E_409 i j M Q := by
  refine s_409_0 (c404 (fun e => hij e.symm) fun M1 f1 g1 => ?_)
  have key : ∀ (s n : Nat) (M' : Mm), n + s = 8 → Fx (fun t o => (t = 500 ∨ t = 501) ∧ o = j) M M' → R12 (M'.1 500 j) → cel (M'.1 500 j) = imgA (cel (M.1 500 i)) n → L_409_9 i j (cntB (fun n => shB (imgA (cel (M.1 500 i)) n) (cel (M.1 500 i))) n : Int) (n : Int) M' Q := by
    intro s
    induction s with
    | zero =>
      intro n M' hn hf hr hc
      have e : n = 8 := by omega
      refine s_409_9 ⟨fun _ => ?_, fun h => by omega⟩
      rw [e]; exact hQ M' hf
    | succ s ih =>
      intro n M' hn hf hr hc
      have hle := cntB_le (fun n => shB (imgA (cel (M.1 500 i)) n) (cel (M.1 500 i))) n
      have ei : M'.1 500 i = M.1 500 i := (hf 500 i (by omega)).1
      have nxt : ∀ x : Int, x = (cntB (fun n => shB (imgA (cel (M.1 500 i)) n) (cel (M.1 500 i))) (n + 1) : Int) → E_407 j M' (fun M1_1 : Mm => (((n : Int) ≠ 3 → (((-2147483648 ≤ (n : Int) + 1 ∧ (n : Int) + 1 ≤ 2147483647)) ∧ (L_409_9 i j x ((n : Int) + 1) M1_1 Q))) ∧ ((n : Int) = 3 → (E_408 j M1_1 (fun M1_2 : Mm => ((-2147483648 ≤ (n : Int) + 1 ∧ (n : Int) + 1 ≤ 2147483647)) ∧ (L_409_9 i j x ((n : Int) + 1) M1_2 Q)))))) := by
        intro x ex
        refine c407 hr fun M2 f2 g2 => ⟨fun hne => ⟨by omega, ?_⟩, fun heq => ?_⟩
        · have hr2 : R12 (M2.1 500 j) := (tq_12 (M'.1 500 j)).cg g2
          have := ih (n + 1) M2 (by omega) (hf.tr f2) hr2 (by
            rw [cel_rot g2, hc]
            show _ = if n = 3 then _ else _
            rw [if_neg (by omega)])
          rw [ex]
          rwa [show ((n + 1 : Nat) : Int) = (n : Int) + 1 by omega] at this
        · have hr2 : R12 (M2.1 500 j) := (tq_12 (M'.1 500 j)).cg g2
          refine c408 hr2 fun M3 f3 g3 => ⟨by omega, ?_⟩
          have hr3 : R12 (M3.1 500 j) := (mq_12 (M2.1 500 j)).cg g3
          have := ih (n + 1) M3 (by omega) ((hf.tr f2).tr (f3.up fun t o h => by omega)) hr3 (by
            rw [cel_mir g3, cel_rot g2, hc]
            show _ = if n = 3 then _ else _
            rw [if_pos (by omega)])
          rw [ex]
          rwa [show ((n + 1 : Nat) : Int) = (n : Int) + 1 by omega] at this
      refine s_409_9 ⟨fun h => by omega, fun _ => c410 hr (by rw [ei]; exact hR) (fun hs => ?_) (fun hs => ?_)⟩
      · rw [hc, ei] at hs
        refine ⟨fun _ => by omega, fun x ex => nxt x ?_⟩
        rw [ex, if_neg (by decide), cntB_y (b := fun n => shB (imgA (cel (M.1 500 i)) n) (cel (M.1 500 i))) (shB_t hs)]; rfl
      · rw [hc, ei] at hs
        refine ⟨fun h => absurd rfl h, fun x ex => nxt x ?_⟩
        rw [ex, if_pos rfl, cntB_n (b := fun n => shB (imgA (cel (M.1 500 i)) n) (cel (M.1 500 i))) (shB_f hs)]
  exact key 8 0 M1 (by omega) (f1.up fun t o h => by omega) (hR.cg g1) (cel_cg g1)

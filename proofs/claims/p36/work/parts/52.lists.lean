/-! lists of contours -/
def kxy (x y : Int) : Int := 49 * y + x
def nxi (a b i : Nat) : Nat := if i + 1 = b then a else i + 1
def Ct (P : Int → Int → Bool) (n : Nat) (st : Nat → Nat) (xs ys : Nat → Int) : Prop := st 0 = 0 ∧ (∀ c, c < n → st c < st (c + 1) ∧ (∀ i, st c ≤ i → i < st (c + 1) → bn P (xs i) (ys i) = true ∧ Nx P (xs i) (ys i) (xs (nxi (st c) (st (c + 1)) i)) (ys (nxi (st c) (st (c + 1)) i))) ∧ (∀ x y, bn P x y = true → kxy x y < kxy (xs (st c)) (ys (st c)) → ∃ j, j < st c ∧ xs j = x ∧ ys j = y)) ∧ (∀ i j, i < st n → j < st n → xs i = xs j → ys i = ys j → i = j)
def Cf (P : Int → Int → Bool) (n : Nat) (st : Nat → Nat) (xs ys : Nat → Int) : Prop := Ct P n st xs ys ∧ ∀ x y, bn P x y = true → ∃ j, j < st n ∧ xs j = x ∧ ys j = y
theorem Ct.mono {P : Int → Int → Bool} {n : Nat} {st : Nat → Nat} {xs ys : Nat → Int} (h : Ct P n st xs ys) : ∀ {c d : Nat}, c ≤ d → d ≤ n → st c ≤ st d := by
  intro c d hcd hd
  induction d with
  | zero => rw [show c = 0 by omega]; exact Nat.le_refl _
  | succ d ih =>
    by_cases e : c = d + 1
    · rw [e]; exact Nat.le_refl _
    · exact Nat.le_trans (ih (by omega) (by omega)) (Nat.le_of_lt (h.2.1 d (by omega)).1)
theorem Ct.find {P : Int → Int → Bool} {n : Nat} {st : Nat → Nat} {xs ys : Nat → Int} (h : Ct P n st xs ys) {i : Nat} (hi : i < st n) : ∃ c, c < n ∧ st c ≤ i ∧ i < st (c + 1) := by
  have key : ∀ m, m ≤ n → i < st m → ∃ c, c < m ∧ st c ≤ i ∧ i < st (c + 1) := by
    intro m
    induction m with
    | zero => intro _ h0; rw [h.1] at h0; exact absurd h0 (Nat.not_lt_zero i)
    | succ m ih =>
      intro hm h0
      by_cases e : i < st m
      · obtain ⟨c, h1, h2⟩ := ih (by omega) e
        exact ⟨c, by omega, h2⟩
      · exact ⟨m, by omega, by omega, h0⟩
  exact key n (Nat.le_refl n) hi
theorem Ct.bend {P : Int → Int → Bool} {n : Nat} {st : Nat → Nat} {xs ys : Nat → Int} (h : Ct P n st xs ys) {i : Nat} (hi : i < st n) : bn P (xs i) (ys i) = true := by
  obtain ⟨c, h1, h2, h3⟩ := h.find hi
  exact ((h.2.1 c h1).2.1 i h2 h3).1
/-- the point before -/
theorem Ct.pred {P : Int → Int → Bool} {n : Nat} {st : Nat → Nat} {xs ys : Nat → Int} (h : Ct P n st xs ys) {i : Nat} (hi : i < st n) : ∃ j, j < st n ∧ Nx P (xs j) (ys j) (xs i) (ys i) := by
  obtain ⟨c, h1, h2, h3⟩ := h.find hi
  have hm := h.mono (c := c + 1) (d := n) (by omega) (Nat.le_refl n)
  obtain ⟨h4, h5, -⟩ := h.2.1 c h1
  by_cases e : i = st c
  · have := (h5 (st (c + 1) - 1) (by omega) (by omega)).2
    unfold nxi at this
    rw [if_pos (by omega)] at this
    exact ⟨st (c + 1) - 1, by omega, by rw [e]; exact this⟩
  · have := (h5 (i - 1) (by omega) (by omega)).2
    unfold nxi at this
    rw [if_neg (by omega), show i - 1 + 1 = i by omega] at this
    exact ⟨i - 1, by omega, this⟩
theorem kxy_inj {x y x' y' : Int} (h : 0 ≤ x ∧ x ≤ 48) (h' : 0 ≤ x' ∧ x' ≤ 48) (e : kxy x y = kxy x' y') : x = x' ∧ y = y' := by
  unfold kxy at e
  omega
/-- two full lists are the same -/
theorem Cf.un {P : Int → Int → Bool} (hg : InG P) {n n' : Nat} {st st' : Nat → Nat} {xs ys xs' ys' : Nat → Int} (h : Cf P n st xs ys) (g : Cf P n' st' xs' ys') : n = n' ∧ (∀ c, c ≤ n → st c = st' c) ∧ ∀ i, i < st n → xs i = xs' i ∧ ys i = ys' i := by
  -- one side of the step
  have half : ∀ {n n' : Nat} {st st' : Nat → Nat} {xs ys xs' ys' : Nat → Int}, Ct P n st xs ys → Cf P n' st' xs' ys' → ∀ c, c < n → c ≤ n' → st c = st' c → (∀ i, i < st c → xs i = xs' i ∧ ys i = ys' i) → c < n' ∧ kxy (xs' (st' c)) (ys' (st' c)) ≤ kxy (xs (st c)) (ys (st c)) := by
    intro n n' st st' xs ys xs' ys' h g c hc hc' e1 e2
    have hm := h.mono (c := c + 1) (d := n) (by omega) (Nat.le_refl n)
    obtain ⟨h4, h5, h6⟩ := h.2.1 c hc
    have hb := (h5 (st c) (Nat.le_refl _) h4).1
    obtain ⟨j, j1, j2, j3⟩ := g.2 _ _ hb
    have hj : st' c ≤ j := by
      rcases Nat.lt_or_ge j (st' c) with k | k
      · exfalso
        rw [← e1] at k
        obtain ⟨k1, k2⟩ := e2 j k
        have := h.2.2 j (st c) (by omega) (by omega) (by rw [k1, j2]) (by rw [k2, j3])
        omega
      · exact k
    have hcn : c < n' := by
      rcases Nat.lt_or_ge c n' with k | k
      · exact k
      · have : c = n' := by omega
        rw [this] at hj
        omega
    refine ⟨hcn, ?_⟩
    obtain ⟨g4, g5, g6⟩ := g.1.2.1 c hcn
    rcases Int.lt_or_le (kxy (xs (st c)) (ys (st c))) (kxy (xs' (st' c)) (ys' (st' c))) with k | k
    · obtain ⟨i, i1, i2, i3⟩ := g6 _ _ hb k
      have := g.1.2.2 i j (by have := g.1.mono (c := c) (d := n') (by omega) (Nat.le_refl _); omega) j1 (by rw [i2, j2]) (by rw [i3, j3])
      omega
    · exact k
  have key : ∀ c, c ≤ n → c ≤ n' → st c = st' c ∧ ∀ i, i < st c → xs i = xs' i ∧ ys i = ys' i := by
    intro c
    induction c with
    | zero =>
      intro _ _
      refine ⟨by rw [h.1.1, g.1.1], fun i hi => ?_⟩
      rw [h.1.1] at hi
      exact absurd hi (Nat.not_lt_zero i)
    | succ c ih =>
      intro hc hc'
      obtain ⟨e1, e2⟩ := ih (by omega) (by omega)
      obtain ⟨-, k1⟩ := half h.1 g c (by omega) (by omega) e1 e2
      obtain ⟨-, k2⟩ := half g.1 h c (by omega) (by omega) e1.symm (fun i hi => by
        obtain ⟨a, b⟩ := e2 i (by omega)
        exact ⟨a.symm, b.symm⟩)
      obtain ⟨h4, h5, h6⟩ := h.1.2.1 c (by omega)
      obtain ⟨g4, g5, g6⟩ := g.1.2.1 c (by omega)
      have hm := h.1.mono (c := c + 1) (d := n) hc (Nat.le_refl n)
      have gm := g.1.mono (c := c + 1) (d := n') hc' (Nat.le_refl n')
      have b1 := bn_in hg (h5 (st c) (Nat.le_refl _) h4).1
      have b2 := bn_in hg (g5 (st' c) (Nat.le_refl _) g4).1
      have ek := kxy_inj ⟨b1.1, b1.2.1⟩ ⟨b2.1, b2.2.1⟩ (Int.le_antisymm k2 k1)
      rw [← e1] at ek g4 g5
      -- along the contour
      have walk : ∀ m, st c + m < st (c + 1) → st c + m < st' (c + 1) → xs (st c + m) = xs' (st c + m) ∧ ys (st c + m) = ys' (st c + m) := by
        intro m
        induction m with
        | zero => intro _ _; exact ek
        | succ m ihm =>
          intro m1 m2
          obtain ⟨p1, p2⟩ := ihm (by omega) (by omega)
          have w1 := (h5 (st c + m) (by omega) (by omega)).2
          have w2 := (g5 (st c + m) (by omega) (by omega)).2
          unfold nxi at w1 w2
          rw [if_neg (by omega)] at w1 w2
          rw [← p1, ← p2] at w2
          exact w1.fn w2
      have close : ∀ {L : Nat}, st c < L → L = st (c + 1) → L < st' (c + 1) → False := by
        intro L hL e hlt
        have w1 := (h5 (L - 1) (by omega) (by omega)).2
        have w2 := (g5 (L - 1) (by omega) (by omega)).2
        have ep := walk (L - 1 - st c) (by omega) (by omega)
        rw [show st c + (L - 1 - st c) = L - 1 by omega] at ep
        unfold nxi at w1 w2
        rw [if_pos (by omega)] at w1
        rw [if_neg (by omega), show L - 1 + 1 = L by omega, ← ep.1, ← ep.2] at w2
        have := w1.fn w2
        have := g.1.2.2 (st c) L (by omega) (by omega) (by rw [← ek.1]; exact this.1) (by rw [← ek.2]; exact this.2)
        omega
      have close' : ∀ {L : Nat}, st c < L → L = st' (c + 1) → L < st (c + 1) → False := by
        intro L hL e hlt
        have w1 := (h5 (L - 1) (by omega) (by omega)).2
        have w2 := (g5 (L - 1) (by omega) (by omega)).2
        have ep := walk (L - 1 - st c) (by omega) (by omega)
        rw [show st c + (L - 1 - st c) = L - 1 by omega] at ep
        unfold nxi at w1 w2
        rw [if_pos (by omega)] at w2
        rw [if_neg (by omega), show L - 1 + 1 = L by omega] at w1
        rw [← ep.1, ← ep.2] at w2
        have := w1.fn w2
        have := h.1.2.2 (st c) L (by omega) (by omega) (by rw [ek.1]; exact this.1.symm) (by rw [ek.2]; exact this.2.symm)
        omega
      have es : st (c + 1) = st' (c + 1) := by
        rcases Nat.lt_trichotomy (st (c + 1)) (st' (c + 1)) with k | k | k
        · exact absurd (close h4 rfl k) id
        · exact k
        · exact absurd (close' g4 rfl k) id
      refine ⟨es, fun i hi => ?_⟩
      by_cases hlt : i < st c
      · exact e2 i hlt
      · have := walk (i - st c) (by omega) (by omega)
        rwa [show st c + (i - st c) = i by omega] at this
  have hn : n = n' := by
    rcases Nat.lt_trichotomy n n' with k | k | k
    · obtain ⟨e1, e2⟩ := key n (Nat.le_refl _) (by omega)
      have := (half g.1 h n k (Nat.le_refl _) e1.symm (fun i hi => by
        obtain ⟨a, b⟩ := e2 i (by omega)
        exact ⟨a.symm, b.symm⟩)).1
      omega
    · exact k
    · obtain ⟨e1, e2⟩ := key n' (by omega) (Nat.le_refl _)
      have := (half h.1 g n' k (Nat.le_refl _) e1 e2).1
      omega
  refine ⟨hn, fun c hc => (key c hc (by omega)).1, (key n (Nat.le_refl n) (by omega)).2⟩
/-- a contour in progress: m points laid, then the point q -/
def Cw (P : Int → Int → Bool) (n : Nat) (st : Nat → Nat) (xs ys : Nat → Int) (bx bY : Int) (m : Nat) (qx qy : Int) : Prop := Ct P n st xs ys ∧ (bn P bx bY = true ∧ (∀ j, j < st n → ¬ (xs j = bx ∧ ys j = bY)) ∧ (∀ x y, bn P x y = true → kxy x y < kxy bx bY → ∃ j, j < st n ∧ xs j = x ∧ ys j = y)) ∧ (m = 0 → qx = bx ∧ qy = bY) ∧ (0 < m → xs (st n) = bx ∧ ys (st n) = bY) ∧ (∀ i, st n ≤ i → i < st n + m → bn P (xs i) (ys i) = true) ∧ (∀ i, st n ≤ i → i + 1 < st n + m → Nx P (xs i) (ys i) (xs (i + 1)) (ys (i + 1))) ∧ (0 < m → Nx P (xs (st n + m - 1)) (ys (st n + m - 1)) qx qy) ∧ bn P qx qy = true ∧ (∀ i j, i < st n + m → j < st n + m → xs i = xs j → ys i = ys j → i = j)
theorem Cw.z {P : Int → Int → Bool} {n : Nat} {st : Nat → Nat} {xs ys : Nat → Int} {bx bY : Int} (h : Ct P n st xs ys) (h1 : bn P bx bY = true) (h2 : ∀ j, j < st n → ¬ (xs j = bx ∧ ys j = bY)) (h3 : ∀ x y, bn P x y = true → kxy x y < kxy bx bY → ∃ j, j < st n ∧ xs j = x ∧ ys j = y) : Cw P n st xs ys bx bY 0 bx bY :=
  ⟨h, ⟨h1, h2, h3⟩, fun _ => ⟨rfl, rfl⟩, fun h => absurd h (Nat.lt_irrefl 0), fun i a b => by omega, fun i a b => by omega, fun h => absurd h (Nat.lt_irrefl 0), h1, h.2.2⟩
/-- the next point is new, but where the contour closes -/
theorem Cw.nw {P : Int → Int → Bool} (hD : NoD P) {n : Nat} {st : Nat → Nat} {xs ys : Nat → Int} {bx bY qx qy : Int} {m : Nat} (h : Cw P n st xs ys bx bY m qx qy) (h0 : m = 0 ∨ ¬ (qx = bx ∧ qy = bY)) : ∀ j, j < st n + m → ¬ (xs j = qx ∧ ys j = qy) := by
  obtain ⟨a1, ⟨a2, a3, a4⟩, a5, a6, a7, a8, a9, a10, a11⟩ := h
  intro j hj ⟨e1, e2⟩
  by_cases hm : m = 0
  · subst hm
    obtain ⟨k1, k2⟩ := a5 rfl
    exact a3 j (by omega) ⟨by omega, by omega⟩
  · have hN := a9 (by omega)
    have hlast := a7 (st n + m - 1) (by omega) (by omega)
    by_cases hjn : j < st n
    · obtain ⟨p, p1, p2⟩ := a1.pred hjn
      rw [e1, e2] at p2
      have := Nx.inj hD hlast (a1.bend p1) hN p2
      have := a11 (st n + m - 1) p (by omega) (by omega) this.1 this.2
      omega
    · by_cases hj0 : j = st n
      · subst hj0
        obtain ⟨k1, k2⟩ := a6 (by omega)
        rcases h0 with k | k
        · exact hm k
        · exact k ⟨by omega, by omega⟩
      · have p2 := a8 (j - 1) (by omega) (by omega)
        rw [show j - 1 + 1 = j by omega, e1, e2] at p2
        have := Nx.inj hD hlast (a7 (j - 1) (by omega) (by omega)) hN p2
        have := a11 (st n + m - 1) (j - 1) (by omega) (by omega) this.1 this.2
        omega
theorem Cw.st {P : Int → Int → Bool} (hD : NoD P) {n : Nat} {st : Nat → Nat} {xs ys xs' ys' : Nat → Int} {bx bY qx qy rx ry : Int} {m : Nat} (h : Cw P n st xs ys bx bY m qx qy) (h0 : m = 0 ∨ ¬ (qx = bx ∧ qy = bY)) (hx : ∀ i, i < st n + m → xs' i = xs i ∧ ys' i = ys i) (hq : xs' (st n + m) = qx ∧ ys' (st n + m) = qy) (hN : Nx P qx qy rx ry) : Cw P n st xs' ys' bx bY (m + 1) rx ry := by
  have hnw := h.nw hD h0
  obtain ⟨a1, ⟨a2, a3, a4⟩, a5, a6, a7, a8, a9, a10, a11⟩ := h
  have hct : Ct P n st xs' ys' := by
    obtain ⟨c1, c2, c3⟩ := a1
    refine ⟨c1, fun c hc => ?_, fun i j hi hj e1 e2 => ?_⟩
    · obtain ⟨d1, d2, d3⟩ := c2 c hc
      have hm := Ct.mono ⟨c1, c2, c3⟩ (c := c + 1) (d := n) (by omega) (Nat.le_refl n)
      refine ⟨d1, fun i i1 i2 => ?_, fun x y hb hk => ?_⟩
      · have hn2 : nxi (st c) (st (c + 1)) i < st n + m := by unfold nxi; split <;> omega
        rw [(hx i (by omega)).1, (hx i (by omega)).2, (hx _ hn2).1, (hx _ hn2).2]
        exact d2 i i1 i2
      · rw [(hx (st c) (by omega)).1, (hx (st c) (by omega)).2] at hk
        obtain ⟨j, j1, j2, j3⟩ := d3 x y hb hk
        exact ⟨j, j1, by rw [(hx j (by omega)).1]; exact j2, by rw [(hx j (by omega)).2]; exact j3⟩
    · rw [(hx i (by omega)).1, (hx j (by omega)).1] at e1
      rw [(hx i (by omega)).2, (hx j (by omega)).2] at e2
      exact c3 i j hi hj e1 e2
  refine ⟨hct, ⟨a2, fun j hj => ?_, fun x y hb hk => ?_⟩, fun h => absurd h (Nat.succ_ne_zero m), fun _ => ?_, fun i i1 i2 => ?_, fun i i1 i2 => ?_, fun _ => ?_, hN.bd, fun i j hi hj e1 e2 => ?_⟩
  · rw [(hx j (by omega)).1, (hx j (by omega)).2]
    exact a3 j hj
  · obtain ⟨j, j1, j2, j3⟩ := a4 x y hb hk
    exact ⟨j, j1, by rw [(hx j (by omega)).1]; exact j2, by rw [(hx j (by omega)).2]; exact j3⟩
  · by_cases hm : m = 0
    · subst hm
      obtain ⟨k1, k2⟩ := a5 rfl
      rw [← k1, ← k2]
      exact hq
    · rw [(hx (st n) (by omega)).1, (hx (st n) (by omega)).2]
      exact a6 (by omega)
  · by_cases e : i = st n + m
    · rw [e, hq.1, hq.2]; exact a10
    · rw [(hx i (by omega)).1, (hx i (by omega)).2]
      exact a7 i i1 (by omega)
  · by_cases e : i + 1 = st n + m
    · rw [e, hq.1, hq.2, (hx i (by omega)).1, (hx i (by omega)).2]
      have := a9 (by omega)
      rwa [show st n + m - 1 = i by omega] at this
    · rw [(hx i (by omega)).1, (hx i (by omega)).2, (hx (i + 1) (by omega)).1, (hx (i + 1) (by omega)).2]
      exact a8 i i1 (by omega)
  · rw [show st n + (m + 1) - 1 = st n + m by omega, hq.1, hq.2]
    exact hN
  · by_cases ei : i = st n + m
    · by_cases ej : j = st n + m
      · omega
      · exfalso
        rw [ei, hq.1, (hx j (by omega)).1] at e1
        rw [ei, hq.2, (hx j (by omega)).2] at e2
        exact hnw j (by omega) ⟨e1.symm, e2.symm⟩
    · by_cases ej : j = st n + m
      · exfalso
        rw [ej, hq.1, (hx i (by omega)).1] at e1
        rw [ej, hq.2, (hx i (by omega)).2] at e2
        exact hnw i (by omega) ⟨e1, e2⟩
      · rw [(hx i (by omega)).1, (hx j (by omega)).1] at e1
        rw [(hx i (by omega)).2, (hx j (by omega)).2] at e2
        exact a11 i j (by omega) (by omega) e1 e2
theorem Cw.fin {P : Int → Int → Bool} {n : Nat} {st st' : Nat → Nat} {xs ys : Nat → Int} {bx bY : Int} {m : Nat} (h : Cw P n st xs ys bx bY m bx bY) (hm : 0 < m) (hs : ∀ c, c ≤ n → st' c = st c) (hs2 : st' (n + 1) = st n + m) : Ct P (n + 1) st' xs ys := by
  obtain ⟨a1, ⟨a2, a3, a4⟩, a5, a6, a7, a8, a9, a10, a11⟩ := h
  obtain ⟨c1, c2, c3⟩ := a1
  refine ⟨by rw [hs 0 (by omega), c1], fun c hc => ?_, ?_⟩
  · by_cases e : c = n
    · subst e
      rw [hs c (Nat.le_refl c), hs2]
      refine ⟨by omega, fun i i1 i2 => ⟨a7 i i1 i2, ?_⟩, fun x y hb hk => ?_⟩
      · unfold nxi
        by_cases e2 : i + 1 = st c + m
        · rw [if_pos e2]
          have := a9 hm
          rw [show st c + m - 1 = i by omega] at this
          rw [(a6 hm).1, (a6 hm).2]
          exact this
        · rw [if_neg e2]
          exact a8 i i1 (by omega)
      · rw [(a6 hm).1, (a6 hm).2] at hk
        exact a4 x y hb hk
    · rw [hs c (by omega), hs (c + 1) (by omega)]
      exact c2 c (by omega)
  · rw [hs2]
    exact a11

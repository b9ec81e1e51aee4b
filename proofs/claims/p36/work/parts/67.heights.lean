/-! heights -/
theorem gapV_s (p l : Int) : 0 ≤ gapV p l ∧ l - p ≤ gapV p l ∧ p - l - 8 ≤ gapV p l ∧ (gapV p l = 0 ∨ gapV p l = l - p ∨ gapV p l = p - l - 8) := by
  unfold gapV maxV
  repeat' split
  all_goals omega
def gg (px py cx cy : Int) : Int := if gapV px (8 * cx) < gapV py (8 * cy) then gapV py (8 * cy) else gapV px (8 * cx)
theorem gg_s (px py cx cy : Int) : gapV px (8 * cx) ≤ gg px py cx cy ∧ gapV py (8 * cy) ≤ gg px py cx cy ∧ (gg px py cx cy = gapV px (8 * cx) ∨ gg px py cx cy = gapV py (8 * cy)) := by
  unfold gg
  split <;> omega
/-- the height over a point: the nearest square outside -/
def IsH (f : Nat → Int) (px py h : Int) : Prop := (∀ cx cy, -1 ≤ cx → cx ≤ 12 → -1 ≤ cy → cy ≤ 12 → cel f cx cy = false → h ≤ gg px py cx cy) ∧ ∃ cx cy, (-1 ≤ cx ∧ cx ≤ 12 ∧ -1 ≤ cy ∧ cy ≤ 12) ∧ cel f cx cy = false ∧ h = gg px py cx cy
theorem IsH.un {f : Nat → Int} {px py h k : Int} (a : IsH f px py h) (b : IsH f px py k) : h = k := by
  obtain ⟨cx, cy, r, e, v⟩ := a.2
  obtain ⟨dx, dy, s, u, w⟩ := b.2
  have h1 := a.1 dx dy s.1 s.2.1 s.2.2.1 s.2.2.2 u
  have h2 := b.1 cx cy r.1 r.2.1 r.2.2.1 r.2.2.2 e
  omega
theorem c415 {i : Nat} {f : Nat → Int} {px py : Int} {M : Mm} {Q : Int → Mm → Prop} (hf : M.1 500 i = f) (hR : R12 f) (hx : 0 ≤ px ∧ px ≤ 96) (hy : 0 ≤ py ∧ py ≤ 96) (hQ : ∀ h, IsH f px py h → Q h M) : E_415 i px py M Q := by
  refine s_415_0 ?_
  have done : ∀ h : Int, (∀ cx cy, -1 ≤ cx → cx ≤ 12 → -1 ≤ cy → cy ≤ 12 → cel f cx cy = false → h ≤ gg px py cx cy) → (h = 96 ∨ ∃ cx cy, (-1 ≤ cx ∧ cx ≤ 12 ∧ -1 ≤ cy ∧ cy ≤ 12) ∧ cel f cx cy = false ∧ h = gg px py cx cy) → IsH f px py h := by
    intro h h1 h2
    refine ⟨h1, ?_⟩
    rcases h2 with h2 | h2
    · have h3 := h1 (-1) (-1) (by omega) (by omega) (by omega) (by omega) (cel_out (by omega))
      refine ⟨-1, -1, by omega, cel_out (by omega), ?_⟩
      have a := gapV_s px (8 * (-1))
      have b := gapV_s py (8 * (-1))
      have c := gg_s px py (-1) (-1)
      omega
    · exact h2
  have rows : ∀ (s : Nat) (y : Int) (h : Int), y + s = 13 → -1 ≤ y → (∀ cx cy, -1 ≤ cx → cx ≤ 12 → -1 ≤ cy → cy < y → cel f cx cy = false → h ≤ gg px py cx cy) → (h = 96 ∨ ∃ cx cy, (-1 ≤ cx ∧ cx ≤ 12 ∧ -1 ≤ cy ∧ cy ≤ 12) ∧ cel f cx cy = false ∧ h = gg px py cx cy) → L_415_6 i px py h y M Q := by
    intro s
    induction s with
    | zero =>
      intro y h hs hy0 h1 h2
      exact s_415_6 ⟨fun _ => hQ h (done h (fun cx cy a b c d e => h1 cx cy a b c (by omega) e) h2), fun h => by omega⟩
    | succ s ih =>
      intro y h hs hy0 h1 h2
      refine s_415_6 ⟨fun h => by omega, fun _ => ?_⟩
      have cols : ∀ (t : Nat) (x : Int) (h : Int), x + t = 13 → -1 ≤ x → (∀ cx cy, -1 ≤ cx → cx ≤ 12 → -1 ≤ cy → (cy < y ∨ (cy = y ∧ cx < x)) → cel f cx cy = false → h ≤ gg px py cx cy) → (h = 96 ∨ ∃ cx cy, (-1 ≤ cx ∧ cx ≤ 12 ∧ -1 ≤ cy ∧ cy ≤ 12) ∧ cel f cx cy = false ∧ h = gg px py cx cy) → L_415_16 i px py h y x M Q := by
        intro t
        induction t with
        | zero =>
          intro x h ht hx0 g1 g2
          exact s_415_16 ⟨fun _ => ⟨by omega, ih (y + 1) h (by omega) (by omega) (fun cx cy a b c d e => g1 cx cy a b c (by omega) e) g2⟩, fun h => by omega⟩
        | succ t iht =>
          intro x h ht hx0 g1 g2
          refine s_415_16 ⟨fun h => by omega, fun _ => ?_⟩
          rw [hf, hasV_cel hR]
          cases hc : cel f x y with
          | true =>
            refine ⟨fun _ => ⟨by omega, iht (x + 1) h (by omega) (by omega) (fun cx cy a b c d e => ?_) g2⟩, fun h => absurd h (by decide)⟩
            by_cases k : cy = y ∧ cx = x
            · rw [k.1, k.2, hc] at e; cases e
            · exact g1 cx cy a b c (by omega) e
          | false =>
            refine ⟨fun h => absurd rfl h, fun _ => ⟨by omega, ⟨by omega, by omega, by omega, by omega⟩, by omega, ⟨by omega, by omega, by omega, by omega⟩, fun z ez => ⟨by omega, ?_⟩⟩⟩
            have ez : z = if gg px py x y < h then gg px py x y else h := ez
            refine iht (x + 1) z (by omega) (by omega) (fun cx cy a b c d e => ?_) ?_
            · by_cases k : cy = y ∧ cx = x
              · rw [k.1, k.2, ez]; split <;> omega
              · have := g1 cx cy a b c (by omega) e
                rw [ez]; split <;> omega
            · rw [ez]
              split
              · exact Or.inr ⟨x, y, by omega, hc, rfl⟩
              · exact g2
      exact cols 14 (-1) h (by omega) (by omega) (fun cx cy a b c d e => h1 cx cy a b c (by omega) e) h2
  exact rows 14 (-1) 96 (by omega) (by omega) (fun cx cy a b c d e => by omega) (Or.inl rfl)
/-- heights at samples -/
theorem sd_le (f : Nat → Int) (c : Nat) : ∀ n, sd f c n ≤ n
  | 0 => Nat.le_refl 0
  | n + 1 => by
    show (if lay f n (smx c) (smy c) then n + 1 else sd f c n) ≤ n + 1
    have := sd_le f c n
    split <;> omega
theorem sd_lay {f : Nat → Int} {c : Nat} : ∀ {n : Nat}, (∀ d, d < sd f c n → lay f d (smx c) (smy c) = true) ∧ (sd f c n < n → lay f (sd f c n) (smx c) (smy c) = false)
  | 0 => ⟨fun d h => absurd h (Nat.not_lt_zero d), fun h => absurd h (Nat.lt_irrefl 0)⟩
  | n + 1 => by
    have ih := sd_lay (f := f) (c := c) (n := n)
    have hle := sd_le f c n
    cases e : lay f n (smx c) (smy c) with
    | true =>
      have e1 : sd f c (n + 1) = n + 1 := by
        show (if lay f n (smx c) (smy c) then n + 1 else sd f c n) = _
        rw [e, if_pos rfl]
      rw [e1]
      have down : ∀ m, m ≤ n → lay f (n - m) (smx c) (smy c) = true := by
        intro m
        induction m with
        | zero => intro _; exact e
        | succ m ihm =>
          intro hm
          have := ihm (by omega)
          rw [show n - m = (n - (m + 1)) + 1 by omega] at this
          exact lay_mono this
      refine ⟨fun d hd => ?_, fun h => absurd h (Nat.lt_irrefl _)⟩
      have := down (n - d) (by omega)
      rwa [show n - (n - d) = d by omega] at this
    | false =>
      have e1 : sd f c (n + 1) = sd f c n := by
        show (if lay f n (smx c) (smy c) then n + 1 else sd f c n) = _
        rw [e, if_neg (by decide)]
      rw [e1]
      refine ⟨ih.1, fun h => ?_⟩
      by_cases h2 : sd f c n = n
      · rw [h2]; exact e
      · exact ih.2 (by omega)
theorem sd_h {f : Nat → Int} {c : Nat} (hc : c < 144) (h0 : 0 < sd f c 25) : IsH f (2 * smx c + 1) (2 * smy c + 1) (2 * (sd f c 25 : Int) - 1) := by
  obtain ⟨k1, k2⟩ := sd_lay (f := f) (c := c) (n := 25)
  have hin := lay_in (k1 (sd f c 25 - 1) (by omega))
  have hlt : sd f c 25 < 25 := by omega
  have k2 := k2 hlt
  have k1 := lay_w.mp (k1 (sd f c 25 - 1) (by omega))
  generalize sd f c 25 = s at *
  have low : ∀ cx cy, -1 ≤ cx → cx ≤ 12 → -1 ≤ cy → cy ≤ 12 → cel f cx cy = false → 2 * (s : Int) - 1 ≤ gg (2 * smx c + 1) (2 * smy c + 1) cx cy := by
    intro cx cy a1 a2 a3 a4 e
    refine Classical.byContradiction fun hlt => ?_
    have gx := gapV_s (2 * smx c + 1) (8 * cx)
    have gy := gapV_s (2 * smy c + 1) (8 * cy)
    have g := gg_s (2 * smx c + 1) (2 * smy c + 1) cx cy
    obtain ⟨i, i1, i2, i3⟩ : ∃ i : Int, -((s - 1 : Nat) : Int) ≤ i ∧ i ≤ ((s - 1 : Nat) : Int) ∧ (smx c + i) / 4 = cx := by
      by_cases q : smx c < 4 * cx
      · exact ⟨4 * cx - smx c, by omega, by omega, by omega⟩
      · by_cases q2 : 4 * cx + 3 < smx c
        · exact ⟨4 * cx + 3 - smx c, by omega, by omega, by omega⟩
        · exact ⟨0, by omega, by omega, by omega⟩
    obtain ⟨j, j1, j2, j3⟩ : ∃ j : Int, -((s - 1 : Nat) : Int) ≤ j ∧ j ≤ ((s - 1 : Nat) : Int) ∧ (smy c + j) / 4 = cy := by
      by_cases q : smy c < 4 * cy
      · exact ⟨4 * cy - smy c, by omega, by omega, by omega⟩
      · by_cases q2 : 4 * cy + 3 < smy c
        · exact ⟨4 * cy + 3 - smy c, by omega, by omega, by omega⟩
        · exact ⟨0, by omega, by omega, by omega⟩
    have := k1 i j i1 i2 j1 j2
    rw [i3, j3, e] at this
    cases this
  refine ⟨low, ?_⟩
  obtain ⟨i, j, i1, i2, j1, j2, hn⟩ : ∃ i j : Int, -(s : Int) ≤ i ∧ i ≤ (s : Int) ∧ -(s : Int) ≤ j ∧ j ≤ (s : Int) ∧ cel f ((smx c + i) / 4) ((smy c + j) / 4) = false := by
    refine Classical.byContradiction fun hno => ?_
    have : lay f s (smx c) (smy c) = true := lay_w.mpr fun i j a b c' d => by
      cases e : cel f ((smx c + i) / 4) ((smy c + j) / 4) with
      | true => rfl
      | false => exact absurd ⟨i, j, a, b, c', d, e⟩ hno
    rw [k2] at this
    cases this
  obtain ⟨cx, x1, x2, x3⟩ : ∃ cx : Int, -1 ≤ cx ∧ cx ≤ 12 ∧ ((cx = (smx c + i) / 4) ∨ ((smx c + i) / 4 < -1 ∧ cx = -1) ∨ (12 < (smx c + i) / 4 ∧ cx = 12)) := by
    by_cases a : (smx c + i) / 4 < -1
    · exact ⟨-1, by omega, by omega, Or.inr (Or.inl ⟨a, rfl⟩)⟩
    · by_cases b : 12 < (smx c + i) / 4
      · exact ⟨12, by omega, by omega, Or.inr (Or.inr ⟨b, rfl⟩)⟩
      · exact ⟨_, by omega, by omega, Or.inl rfl⟩
  obtain ⟨cy, y1, y2, y3⟩ : ∃ cy : Int, -1 ≤ cy ∧ cy ≤ 12 ∧ ((cy = (smy c + j) / 4) ∨ ((smy c + j) / 4 < -1 ∧ cy = -1) ∨ (12 < (smy c + j) / 4 ∧ cy = 12)) := by
    by_cases a : (smy c + j) / 4 < -1
    · exact ⟨-1, by omega, by omega, Or.inr (Or.inl ⟨a, rfl⟩)⟩
    · by_cases b : 12 < (smy c + j) / 4
      · exact ⟨12, by omega, by omega, Or.inr (Or.inr ⟨b, rfl⟩)⟩
      · exact ⟨_, by omega, by omega, Or.inl rfl⟩
  have hcel : cel f cx cy = false := by
    by_cases q : cx = (smx c + i) / 4 ∧ cy = (smy c + j) / 4
    · rw [q.1, q.2]; exact hn
    · exact cel_out (by omega)
  refine ⟨cx, cy, ⟨x1, x2, y1, y2⟩, hcel, ?_⟩
  have h1 := low cx cy x1 x2 y1 y2 hcel
  have gx := gapV_s (2 * smx c + 1) (8 * cx)
  have gy := gapV_s (2 * smy c + 1) (8 * cy)
  have g := gg_s (2 * smx c + 1) (2 * smy c + 1) cx cy
  omega

/-! heights -/
theorem gapV_s (p l : Int) : 0 ≤ gapV p l ∧ l - p ≤ gapV p l ∧ p - l - 8 ≤ gapV p l ∧ (gapV p l = 0 ∨ gapV p l = l - p ∨ gapV p l = p - l - 8) := by
  unfold gapV maxV
  repeat' split
  all_goals omega
def gg (px py cx cy : Int) : Int := if gapV px (8 * cx) < gapV py (8 * cy) then gapV py (8 * cy) else gapV px (8 * cx)
theorem gg_s (px py cx cy : Int) : gapV px (8 * cx) ≤ gg px py cx cy ∧ gapV py (8 * cy) ≤ gg px py cx cy ∧ (gg px py cx cy = gapV px (8 * cx) ∨ gg px py cx cy = gapV py (8 * cy)) := by
  unfold gg
  split <;> omega
/-- the height over a point: the nearest square outside -/
def IsH (f : Nat → Int) (px py h : Int) : Prop := (∀ cx cy, -1 ≤ cx → cx ≤ 12 → -1 ≤ cy → cy ≤ 12 → cel f cx cy = false → h ≤ gg px py cx cy) ∧ ∃ cx cy, (-1 ≤ cx ∧ cx ≤ 12 ∧ -1 ≤ cy ∧ cy ≤ 12) ∧ cel f cx cy = false ∧ h = gg px py cx cy
theorem IsH.un {f : Nat → Int} {px py h k : Int} (a : IsH f px py h) (b : IsH f px py k) : h = k := by
  obtain ⟨cx, cy, r, e, v⟩ := a.2
  obtain ⟨dx, dy, s, u, w⟩ := b.2
  have h1 := a.1 dx dy s.1 s.2.1 s.2.2.1 s.2.2.2 u
  have h2 := b.1 cx cy r.1 r.2.1 r.2.2.1 r.2.2.2 e
  omega
theorem c415 {i : Nat} {f : Nat → Int} {px py : Int} {M : Mm} {Q : Int → Mm → Prop} (hf : M.1 500 i = f) (hR : R12 f) (hx : 0 ≤ px ∧ px ≤ 96) (hy : 0 ≤ py ∧ py ≤ 96) (hQ : ∀ h, IsH f px py h → Q h M) : E_415 i px py M Q := by
  refine s_415_0 ?_
  have done : ∀ h : Int, (∀ cx cy, -1 ≤ cx → cx ≤ 12 → -1 ≤ cy → cy ≤ 12 → cel f cx cy = false → h ≤ gg px py cx cy) → (h = 96 ∨ ∃ cx cy, (-1 ≤ cx ∧ cx ≤ 12 ∧ -1 ≤ cy ∧ cy ≤ 12) ∧ cel f cx cy = false ∧ h = gg px py cx cy) → IsH f px py h := by
    intro h h1 h2
    refine ⟨h1, ?_⟩
    rcases h2 with h2 | h2
    · have h3 := h1 (-1) (-1) (by omega) (by omega) (by omega) (by omega) (cel_out (by omega))
      refine ⟨-1, -1, by omega, cel_out (by omega), ?_⟩
      have a := gapV_s px (8 * (-1))
      have b := gapV_s py (8 * (-1))
      have c := gg_s px py (-1) (-1)
      omega
    · exact h2
  have rows : ∀ (s : Nat) (y : Int) (h : Int), y + s = 13 → -1 ≤ y → (∀ cx cy, -1 ≤ cx → cx ≤ 12 → -1 ≤ cy → cy < y → cel f cx cy = false → h ≤ gg px py cx cy) → (h = 96 ∨ ∃ cx cy, (-1 ≤ cx ∧ cx ≤ 12 ∧ -1 ≤ cy ∧ cy ≤ 12) ∧ cel f cx cy = false ∧ h = gg px py cx cy) → L_415_6 i px py h y M Q := by
    intro s
    induction s with
    | zero =>
      intro y h hs hy0 h1 h2
      exact s_415_6 ⟨fun _ => hQ h (done h (fun cx cy a b c d e => h1 cx cy a b c (by omega) e) h2), fun h => by omega⟩
    | succ s ih =>
      intro y h hs hy0 h1 h2
      refine s_415_6 ⟨fun h => by omega, fun _ => ?_⟩
      have cols : ∀ (t : Nat) (x : Int) (h : Int), x + t = 13 → -1 ≤ x → (∀ cx cy, -1 ≤ cx → cx ≤ 12 → -1 ≤ cy → (cy < y ∨ (cy = y ∧ cx < x)) → cel f cx cy = false → h ≤ gg px py cx cy) → (h = 96 ∨ ∃ cx cy, (-1 ≤ cx ∧ cx ≤ 12 ∧ -1 ≤ cy ∧ cy ≤ 12) ∧ cel f cx cy = false ∧ h = gg px py cx cy) → L_415_16 i px py h y x M Q := by
        intro t
        induction t with
        | zero =>
          intro x h ht hx0 g1 g2
          exact s_415_16 ⟨fun _ => ⟨by omega, ih (y + 1) h (by omega) (by omega) (fun cx cy a b c d e => g1 cx cy a b c (by omega) e) g2⟩, fun h => by omega⟩
        | succ t iht =>
          intro x h ht hx0 g1 g2
          refine s_415_16 ⟨fun h => by omega, fun _ => ?_⟩
          rw [hf, hasV_cel hR]
          cases hc : cel f x y with
          | true =>
            refine ⟨fun _ => ⟨by omega, iht (x + 1) h (by omega) (by omega) (fun cx cy a b c d e => ?_) g2⟩, fun h => absurd h (by decide)⟩
            by_cases k : cy = y ∧ cx = x
            · rw [k.1, k.2, hc] at e; cases e
            · exact g1 cx cy a b c (by omega) e
          | false =>
            refine ⟨fun h => absurd rfl h, fun _ => ⟨by omega, ⟨by omega, by omega, by omega, by omega⟩, by omega, ⟨by omega, by omega, by omega, by omega⟩, fun z ez => ⟨by omega, ?_⟩⟩⟩
            have ez : z = if gg px py x y < h then gg px py x y else h := ez
            refine iht (x + 1) z (by omega) (by omega) (fun cx cy a b c d e => ?_) ?_
            · by_cases k : cy = y ∧ cx = x
              · rw [k.1, k.2, ez]; split <;> omega
              · have := g1 cx cy a b c (by omega) e
                rw [ez]; split <;> omega
            · rw [ez]
              split
              · exact Or.inr ⟨x, y, by omega, hc, rfl⟩
              · exact g2
      exact cols 14 (-1) h (by omega) (by omega) (fun cx cy a b c d e => h1 cx cy a b c (by omega) e) h2
  exact rows 14 (-1) 96 (by omega) (by omega) (fun cx cy a b c d e => by omega) (Or.inl rfl)
/-- heights at samples -/
theorem sd_le (f : Nat → Int) (c : Nat) : ∀ n, sd f c n ≤ n
  | 0 => Nat.le_refl 0
  | n + 1 => by
    show (if lay f n (smx c) (smy c) then n + 1 else sd f c n) ≤ n + 1
    have := sd_le f c n
    split <;> omega
